import java.nio.file.Files;
import java.nio.file.Path;
import java.util.regex.Matcher;
import java.util.regex.Pattern;

/** The example of README.md answers as it says there. */
public final class ReadmeTest {
    private static final Pattern TEXT = Pattern.compile("String text = \"([^\"]*)\";");
    private static final Pattern CALL = Pattern.compile("bay\\.(\\w+)\\(([-0-9, ]*)\\); +// (-?\\d+)\\b.*");

    public static void main(String[] args) throws Exception {
        HaulWages bay = new HaulWages();
        int answered = 0;
        for (String line : Files.readAllLines(Path.of("README.md"))) {
            Matcher text = TEXT.matcher(line);
            if (text.matches()) {
                Due.feedAll(bay, text.group(1));
            }
            Matcher call = CALL.matcher(line);
            if (call.matches()) {
                Due.due(line, answer(bay, call.group(1), call.group(2)), Long.parseLong(call.group(3)));
                answered++;
            }
        }
        Due.due("the example was found", answered > 10 ? 1 : 0, 1);
        Due.finish();
    }

    private static long answer(HaulWages bay, String name, String list) throws Exception {
        String[] words = list.isBlank() ? new String[0] : list.split(", *");
        Class<?>[] types = new Class<?>[words.length];
        Object[] numbers = new Object[words.length];
        for (int i = 0; i < words.length; i++) {
            types[i] = int.class;
            numbers[i] = Integer.parseInt(words[i]);
        }
        return ((Number) HaulWages.class.getMethod(name, types).invoke(bay, numbers)).longValue();
    }
}
