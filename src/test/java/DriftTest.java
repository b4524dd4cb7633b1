/** Promise 35: WEEKS by a seed. */
public final class DriftTest {
    private static final int BAD = HaulWages.BAD, STATE = HaulWages.STATE;

    public static void main(String[] args) {
        HaulWages x = Due.bay("plain 9 5;plain 9 3;one 7;hooter 0;brings 8;");
        // By seed 0 are got 0, 21468, 9988, 22117, 3498, 16927: HOOTER 0 6 6 4 5 1, WEIGHTS 1 9, 1 3, 4 3, 4 3, 4 1, 4 4.
        int[] gains = {0, 8, 16, 21, 29, 34};
        int[] bents = {0, 0, 1, 1, 1, 1};
        for (int n = 1; n <= 6; n++) {
            Due.due("drift(0, " + n + ", 0)", x.drift(0, n, 0), gains[n - 1]);
            Due.due("drift(0, " + n + ", 1)", x.drift(0, n, 1), bents[n - 1]);
        }
        Due.due("WEIGHT stays", x.good(0, 1), 9);
        Due.due("HOOTER stays", x.rule(3), 0);
        Due.due("WEEK stays", x.rule(2), 0);
        Due.due("WAGES stay", x.rule(6), 0);
        x.train(0, 1, 100);
        Due.due("drift(0, 6, 0) from 100 on", x.drift(0, 6, 0), 34);
        x.train(0, 1, 990);
        Due.due("drift(0, 6, 0) up to 999", x.drift(0, 6, 0), 9);
        x.train(0, 1, 0);
        // By seed -3 are got 15021 (HOOTER 6, the second weighs 1), 3060 (HOOTER 1, the first weighs 3).
        Due.due("drift(-3, 1, 0)", x.drift(-3, 1, 0), 3);
        Due.due("drift(-3, 2, 0)", x.drift(-3, 2, 0), 8);
        Due.due("drift(0, 0, 0)", x.drift(0, 0, 0), BAD);
        Due.due("drift(0, 61, 0)", x.drift(0, 61, 0), BAD);
        Due.due("drift(0, 1, 2)", x.drift(0, 1, 2), BAD);
        Due.due("drift(0, 1, -1)", x.drift(0, 1, -1), BAD);
        Due.due("drift of nobody", Due.bay("plain 1 1;").drift(5, 60, 0), 0);
        x = Due.bay("one 5;");
        Due.due("drift of no GOODS", x.drift(5, 60, 0), STATE);
        Due.due("drift of no GOODS, BAD first", x.drift(5, 61, 0), BAD);
        Due.finish();
    }
}
