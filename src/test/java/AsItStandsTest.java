import java.lang.reflect.Method;
import java.util.ArrayList;
import java.util.List;

/**
 * Each question answers from how it stands, whatever was done, asked, refused just before. Other tests ask a row of
 * questions of one object, so that the first of them could set right what a later one gets wrong; here each question
 * is the first one behind its history, on an object of its own, and answers as the Model's.
 */
public final class AsItStandsTest {
    private static final String TOWN = "text plain 3 5;awkward 2 4;feather 5 9;crate 2 3;plain 4 6;"
        + "one 7;one 5;one 12;hooter 3;brings 2;";
    // All of it is read ahead of its fault, and none of it may count.
    private static final String RICHER = "plain1 9;".repeat(8) + "one20;".repeat(4) + "hooter6;brings8;";

    // lose() and swap() have answers here.
    private static final String LIGHT = "text plain 5 5;plain 1 4;plain 1 4;one 5;one 4;hooter 2;brings 0;";
    // ask() has, of a few that are as SEEN.
    private static final String ASKED = "text plain 2 4;plain 9 9;one 5;one 3;hooter 1;brings 1;|hide 0|see 1 0 0";

    // Calls with their numbers, parted by a bar.
    private static final String[] HISTORIES = {
        "", "text one 0;", "text " + RICHER + "x", "text one 5;", "text plain 2 2;", "text ",
        TOWN,
        TOWN + "|alter 0 0 3|alter 4 0 2", TOWN + "|alter 1 1 9|alter 2 1 1", TOWN + "|alter 2 2 0|alter 4 2 9",
        TOWN + "|train 0 0 20|train 2 0 1", TOWN + "|train 1 1 500|train 0 1 990",
        TOWN + "|set 0 6|set 1 8", TOWN + "|set 0 0", TOWN + "|set 0 1|set 1 0",
        TOWN + "|stock 3 1 9", TOWN + "|hide 0|hide 3", TOWN + "|hide 0|hide 1|hide 2|hide 3|hide 4",
        TOWN + "|weeks 1", TOWN + "|weeks 7", TOWN + "|weeks 2|fill",
        TOWN + "|keep 0|stock 3 1 9|train 0 0 20|weeks 3|back 0", TOWN + "|weeks 2|keep 1|text " + RICHER + "|back 1",
        TOWN + "|text " + RICHER + "x", TOWN + "|text x", TOWN + "|text plain 2 2;one 3;", TOWN + "|text plain 2 2;",
        TOWN + "|text one 5;", TOWN + "|text ",
        TOWN + "|see 1 0 9|train 0 0 6", TOWN + "|see 1 0 9|see 2 1 0|see 0 2 0", TOWN + "|see 1 0 9|text " + RICHER + "x",
        TOWN + "|see 0 0 0|see 20 1 3|forget 1", TOWN + "|see 1 0 9|see 3 0 30|weeks 1",
        TOWN + "|one 0 2", TOWN + "|runs 60 0", TOWN + "|ahead 0 60 0", TOWN + "|gone 0", TOWN + "|rich 0 999",
        TOWN + "|need 0 0", TOWN + "|fair 60 0", TOWN + "|swap 60 0", TOWN + "|lose 60 0", TOWN + "|price 0",
        TOWN + "|kind 0 60 0", TOWN + "|luck 5 0 0", TOWN + "|mean 5 2 0", TOWN + "|kinds 0", TOWN + "|weights 0",
        TOWN + "|strengths 0", TOWN + "|ask 0 0", TOWN + "|drift 7 60 0",
        TOWN + "|mean 5 2 0|alter 0 2 9|set 0 1", TOWN + "|ask 0 0|train 0 0 3|train 1 0 9", TOWN + "|runs 60 0|stock 1 1 9",
        LIGHT, LIGHT + "|mean 0 2 0", LIGHT + "|hide 0", LIGHT + "|mean 0 2 0|alter 0 2 9", LIGHT + "|weeks 1",
        ASKED, ASKED + "|ask 0 0", ASKED + "|ask 1 0|train 0 0 2", ASKED + "|ask 0 0|forget 0", ASKED + "|see 1 1 0",
        TOWN + "|sheet 0 0 6|lay 0 0 3|lay 0 1 1|lay 0 2 9|read 0 0 0 1",
        TOWN + "|sheet 0 0 6|lay 0 0 3|lay 0 1 1|lay 0 2 9|read 0 0 0 2",
        TOWN + "|sheet 0 1 4|lay 0 0 3|lay 0 1 1|lay 0 2 9|read 0 1 0 2", TOWN + "|sheet 0 2 0|read 0 1 0 2"};

    // Each with all the numbers that it is asked with: lists parted by a slash.
    private static final String[] QUESTIONS = {"fault", "torn", "rule 0,1,2,3,4,5,6", "good 0,2,5/0,1,2,3,4,5",
        "one 0,1,2,3/0,1,2,3", "runs 0,1,9/0,1,2,3,4", "ahead 0,2/0,6/0,1", "gone 0,1,2,3,4,5", "rich 0,1,2/0,7,40,999",
        "arms 0,1,2,3/0,1,2", "need 0,2/0,1,2,3,4,5", "fair 0,1,9/0,1", "swap 0,1,9/0,1", "lose 0,1,9/0,1",
        "price 0,1,2,3,4,5", "kind 0,2,5/0,1,9/0,1", "luck 0,3,10/0,2,5/0,1", "mean 0,4,10/0,1,2/0,1", "see 1/0,3/9",
        "forget 0,1", "kinds 0,2,5", "weights 0,2,5", "strengths 0,1,2,3", "ask 0,1,2,3/0,1", "drift 7,-3/1,20/0,1",
        "keep 0,1", "back 0,1", "count 0,1,2,3,4,5", "stock 0/1/1", "fill ", "weeks 1,5", "hide 0,5", "end 0"};

    private final HaulWages x = new HaulWages();
    private final Model model = new Model();

    public static void main(String[] args) throws Exception {
        List<String[]> questions = new ArrayList<>();
        for (String row : QUESTIONS) {
            addAll(questions, row);
        }
        for (String history : HISTORIES) {
            for (String[] question : questions) {
                AsItStandsTest test = new AsItStandsTest();
                test.live(history);
                test.same(history, question);
            }
        }
        Due.finish();
    }

    /** A question for every choice of one number from each of its lists. */
    private static void addAll(List<String[]> questions, String row) {
        String name = row.split(" ")[0];
        List<String> made = List.of(name);
        for (String list : row.substring(name.length()).trim().split("/")) {
            List<String> longer = new ArrayList<>();
            for (String begun : made) {
                for (String number : list.split(",")) {
                    longer.add((begun + " " + number).trim());
                }
            }
            made = longer;
        }
        for (String call : made) {
            questions.add(call.split(" "));
        }
    }

    private void live(String history) throws Exception {
        for (String call : history.split("\\|")) {
            if (call.startsWith("text ")) {
                for (int i = "text ".length(); i < call.length(); i++) {
                    x.feed(call.charAt(i));
                    model.feed(call.charAt(i));
                }
                same(history, "text");
            } else if (!call.isEmpty()) {
                same(history, call.split(" "));
            }
        }
    }

    private void same(String history, String... words) throws Exception {
        Class<?>[] types = new Class<?>[words.length - 1];
        Object[] numbers = new Object[words.length - 1];
        for (int i = 0; i < numbers.length; i++) {
            types[i] = int.class;
            numbers[i] = Integer.parseInt(words[i + 1]);
        }
        Method call = HaulWages.class.getMethod(words[0], types);
        Method plain = Model.class.getMethod(words[0], types);
        long got = ((Number) call.invoke(x, numbers)).longValue();
        long want = ((Number) plain.invoke(model, numbers)).longValue();
        Due.due("behind '" + history + "': " + String.join(" ", words), got, want);
    }
}
