import java.lang.reflect.Method;
import java.util.ArrayList;
import java.util.Comparator;
import java.util.HashMap;
import java.util.List;
import java.util.Map;
import java.util.Random;

/** Random runs of 512 calls, by fixed seeds: every answer as the Model's. */
public final class RandomTest {
    private static final int RUNS = 300;
    private static final int CALLS = 512;
    private static final String[] HEADS = {"plain", "awkward", "feather", "crate", "one", "one", "one", "hooter", "brings"};
    // How far the numbers of a call reach, by its name: each is drawn from a little below 0 to a little above.
    private static final Map<String, int[]> REACH = new HashMap<>();
    // Calls that are so slow in the Model, or change so much, that they come seldom.
    private static final List<String> SELDOM = List.of("text", "end", "gone", "rich", "back", "hide", "see");

    static {
        String[] rows = {"end 160", "rule 6", "good 7 5", "one 3 3", "alter 7 2 9", "train 3 1 20", "set 1 8",
            "stock 3 9 9", "hide 7", "weeks 30", "runs 60 4", "ahead 3 60 1", "gone 7", "rich 3 300", "arms 3 2",
            "need 3 7", "fair 60 1", "swap 60 1", "lose 60 1", "price 7", "kind 7 60 1", "luck 10 7 1", "mean 10 2 1",
            "see 20 3 60", "forget 6", "kinds 7", "weights 7", "strengths 3", "ask 3 1", "drift 9999 60 1", "keep 1",
            "back 1", "sheet 3 2 40", "lay 3 39 9", "read 3 2 39 13", "count 5", "feed 127"};
        for (String row : rows) {
            String[] words = row.split(" ");
            int[] reach = new int[words.length - 1];
            for (int i = 0; i < reach.length; i++) {
                reach[i] = Integer.parseInt(words[i + 1]);
            }
            REACH.put(words[0], reach);
        }
    }

    private final Random random;
    private final HaulWages x = new HaulWages();
    private final Model model = new Model();
    private final List<String> said = new ArrayList<>();
    private final List<Method> calls;

    private RandomTest(int seed, List<Method> calls) {
        this.random = new Random(seed);
        this.calls = calls;
    }

    public static void main(String[] args) throws Exception {
        List<Method> calls = new ArrayList<>();
        for (Method m : HaulWages.class.getDeclaredMethods()) {
            if (java.lang.reflect.Modifier.isPublic(m.getModifiers())) {
                calls.add(m);
            }
        }
        calls.sort(Comparator.comparing(Method::getName));
        for (int seed = 0; seed < RUNS; seed++) {
            if (!new RandomTest(seed, calls).run(seed)) {
                break;
            }
        }
        Due.finish();
    }

    private boolean run(int seed) throws Exception {
        while (said.size() < CALLS) {
            boolean same = random.nextInt(60) == 0 || said.isEmpty() ? tellText(seed) : callAny(seed);
            if (!same) {
                return false;
            }
        }
        return true;
    }

    private boolean tellText(int seed) throws Exception {
        StringBuilder text = new StringBuilder();
        int lines = random.nextInt(4) == 0 ? random.nextInt(20) : 4 + random.nextInt(9);
        for (int i = 0; i < lines; i++) {
            text.append(line());
        }
        if (random.nextInt(3) == 0 && text.length() > 0) {
            spoil(text);
        }
        Method feed = HaulWages.class.getMethod("feed", int.class);
        for (int i = 0; i < text.length() && said.size() < CALLS; i++) {
            if (!same(seed, feed, (int) text.charAt(i))) {
                return false;
            }
        }
        return same(seed, HaulWages.class.getMethod("text")) && same(seed, HaulWages.class.getMethod("fault"));
    }

    private String line() {
        String head = HEADS[random.nextInt(HEADS.length)];
        String blank = random.nextInt(9) == 0 ? "  " : random.nextInt(3) == 0 ? "" : " ";
        boolean kind = head.length() >= 5 && !head.equals("hooter") && !head.equals("brings");
        int first = kind ? 1 + random.nextInt(9) : head.equals("one") ? 1 + random.nextInt(20) : random.nextInt(7);
        String second = kind ? " " + random.nextInt(10) : "";
        return head + blank + first + second + ";";
    }

    private void spoil(StringBuilder text) {
        int at = random.nextInt(text.length());
        String bytes = "abz 0159;\n\t`{/:Z~";
        char c = bytes.charAt(random.nextInt(bytes.length()));
        switch (random.nextInt(3)) {
            case 0 -> text.setCharAt(at, c);
            case 1 -> text.insert(at, c);
            default -> text.deleteCharAt(at);
        }
    }

    private boolean callAny(int seed) throws Exception {
        Method m = calls.get(random.nextInt(calls.size()));
        if (SELDOM.contains(m.getName()) && random.nextInt(4) != 0) {
            return true;
        }
        if (m.getName().equals("see") && random.nextBoolean()) {
            return seeTruth(seed, m);
        }
        int[] reach = REACH.getOrDefault(m.getName(), new int[0]);
        Object[] numbers = new Object[reach.length];
        for (int i = 0; i < reach.length; i++) {
            numbers[i] = number(reach[i]);
        }
        return same(seed, m, numbers);
    }

    /** What is SEEN by chance hardly ever is so: now and then it is told as it will be. */
    private boolean seeTruth(int seed, Method see) throws Exception {
        int n = random.nextInt(12);
        int p = random.nextInt(4);
        return same(seed, see, n, p, Math.max(0, model.ahead(p, n, 0)));
    }

    private int number(int reach) {
        switch (random.nextInt(24)) {
            case 0: return -1;
            case 1: return reach + 1;
            case 2: return reach;
            case 3: return 0;
            case 4: return random.nextInt(4) == 0 ? random.nextInt() : random.nextInt(reach + 1);
            case 5: return random.nextInt(4) == 0 ? Integer.MAX_VALUE - random.nextInt(40) : random.nextInt(reach + 1);
            case 6: return random.nextInt(4) == 0 ? Integer.MIN_VALUE + random.nextInt(40) : random.nextInt(reach + 1);
            default: return random.nextInt(reach + 1);
        }
    }

    private boolean same(int seed, Method m, Object... numbers) throws Exception {
        Method plain = Model.class.getMethod(m.getName(), m.getParameterTypes());
        StringBuilder call = new StringBuilder(m.getName()).append(java.util.Arrays.toString(numbers));
        said.add(call.toString());
        long got = ((Number) m.invoke(x, numbers)).longValue();
        long want = ((Number) plain.invoke(model, numbers)).longValue();
        Due.due("run " + seed + ": " + call, got, want);
        if (got != want) {
            System.out.println(String.join(" ", said));
        }
        return got == want;
    }
}
