import java.lang.reflect.Constructor;
import java.lang.reflect.Field;
import java.lang.reflect.Method;
import java.lang.reflect.Modifier;
import java.nio.file.Files;
import java.nio.file.Path;
import java.util.HashSet;
import java.util.List;
import java.util.Set;
import java.util.TreeSet;
import java.util.regex.Matcher;
import java.util.regex.Pattern;

/** The public face, promise 1, and what LANGUAGE.md rules out and a scan can see. */
public final class FaceTest {
    private static final String[] FACE = {
        "int feed(int)", "int end(int)", "int text()", "int fault()", "int rule(int)", "int good(int,int)",
        "int one(int,int)", "int alter(int,int,int)", "int train(int,int,int)", "int set(int,int)",
        "int stock(int,int,int)", "int hide(int)", "int fill()", "int weeks(int)", "int runs(int,int)",
        "int ahead(int,int,int)", "int gone(int)", "int rich(int,int)", "int arms(int,int)", "int need(int,int)",
        "int fair(int,int)", "int swap(int,int)", "int lose(int,int)", "int price(int)", "int kind(int,int,int)",
        "long luck(int,int,int)", "long mean(int,int,int)", "int see(int,int,int)", "int forget(int)",
        "int kinds(int)", "int weights(int)", "int strengths(int)", "int ask(int,int)", "int drift(int,int,int)",
        "int keep(int)", "int back(int)", "int sheet(int,int,int)", "int lay(int,int,int)",
        "int read(int,int,int,int)", "int torn()", "int count(int)"};

    private static final String[] RULED_OUT = {
        "\\bthrow\\b", "\\btry\\b", "\\bcatch\\b", "\\bsynchronized\\b", "\\bassert\\b", "\\bimport\\b", "\\bpackage\\b",
        "->", "::", "\\bSystem\\.(?!arraycopy)", "\\bObject\\b", "Exact\\(", "\\bThread\\b", "\\bRandom\\b",
        "\\bprotected\\b", "static\\s*\\{"};

    public static void main(String[] args) throws Exception {
        theFace();
        theForm();
        theClasses();
        theMethods();
        aNewObject();
        Due.finish();
    }

    private static void theFace() {
        Class<HaulWages> c = HaulWages.class;
        Due.due("public and final", c.getModifiers(), Modifier.PUBLIC | Modifier.FINAL);
        Set<String> found = new TreeSet<>();
        for (Method m : c.getDeclaredMethods()) {
            if (!Modifier.isPrivate(m.getModifiers()) && !m.isSynthetic()) {
                String name = m.toGenericString().replace("HaulWages.", "").replace("public ", "").replace(", ", ",");
                found.add(name);
                Due.due("public: " + name, Modifier.isPublic(m.getModifiers()) ? 1 : 0, 1);
            }
        }
        Set<String> want = new TreeSet<>(Set.of(FACE));
        Due.due("the methods are " + found, found.equals(want) ? 1 : 0, 1);
        for (Method m : c.getDeclaredMethods()) {
            boolean hidden = Modifier.isPrivate(m.getModifiers());
            boolean sameName = want.stream().anyMatch(w -> w.contains(" " + m.getName() + "("));
            Due.due("private with a public name: " + m, hidden && sameName ? 1 : 0, 0);
        }
        Constructor<?>[] made = c.getDeclaredConstructors();
        Due.due("constructors", made.length, 1);
        Due.due("the constructor", made[0].getModifiers() == Modifier.PUBLIC && made[0].getParameterCount() == 0 ? 1 : 0, 1);
        Set<String> open = new TreeSet<>();
        for (Field f : c.getDeclaredFields()) {
            if (!Modifier.isPrivate(f.getModifiers())) {
                open.add(f.getName());
            }
            if (Modifier.isStatic(f.getModifiers())) {
                Due.due("static and final: " + f, Modifier.isFinal(f.getModifiers()) ? 1 : 0, 1);
            }
        }
        Due.due("the constants are " + open, open.equals(Set.of("BAD", "STATE", "FULL", "NONE")) ? 1 : 0, 1);
        Due.due("BAD", HaulWages.BAD, -1);
        Due.due("STATE", HaulWages.STATE, -2);
        Due.due("FULL", HaulWages.FULL, -3);
        Due.due("NONE", HaulWages.NONE, -4);
    }

    private static void theForm() throws Exception {
        String source = Files.readString(Path.of("src/main/java/HaulWages.java"));
        String code = source.replaceAll("(?s)/\\*.*?\\*/", "").replaceAll("//[^\n]*", "");
        for (String pattern : RULED_OUT) {
            Matcher m = Pattern.compile(pattern).matcher(code);
            Due.due("ruled out by LANGUAGE.md: " + pattern, m.find() ? 1 : 0, 0);
        }
        Due.due("classes inside", HaulWages.class.getDeclaredClasses().length <= 11 ? 1 : 0, 1);
        for (Class<?> inside : HaulWages.class.getDeclaredClasses()) {
            Due.due("static: " + inside, Modifier.isStatic(inside.getModifiers()) ? 1 : 0, 1);
        }
    }

    /** LANGUAGE.md, rules 2, 3, 5, 11: what the classes hold. */
    private static void theClasses() {
        Set<Class<?>> constants = Set.of(int.class, long.class, boolean.class, char.class, String.class, int[].class,
            long[].class, char[].class, byte[].class);
        Set<Class<?>> all = new HashSet<>(Set.of(HaulWages.class.getDeclaredClasses()));
        all.add(HaulWages.class);
        for (Class<?> c : all) {
            int fields = 0;
            for (Field f : c.getDeclaredFields()) {
                boolean fixed = Modifier.isStatic(f.getModifiers());
                fields += fixed ? 0 : 1;
                if (fixed && !f.isSynthetic()) {
                    Due.due("a constant: " + f, Modifier.isFinal(f.getModifiers()) && constants.contains(f.getType()) ? 1 : 0, 1);
                }
            }
            Due.due("some twenty fields: " + c, fields <= 20 ? 1 : 0, 1);
            for (Method m : c.getDeclaredMethods()) {
                Due.due("seven parameters at most: " + m, m.getParameterCount() <= 7 ? 1 : 0, 1);
            }
        }
    }

    /** LANGUAGE.md, rule 11: methods stay short; rule 4: signs 1 to 127. */
    private static void theMethods() throws Exception {
        List<String> lines = Files.readAllLines(Path.of("src/main/java/HaulWages.java"));
        Pattern head = Pattern.compile("( {4}| {8})[^ /}].*\\) \\{");
        for (int i = 0; i < lines.size(); i++) {
            Matcher m = head.matcher(lines.get(i));
            if (m.matches()) {
                int end = i;
                while (!lines.get(end).equals(m.group(1) + "}")) {
                    end++;
                }
                Due.due("some sixty lines: " + lines.get(i).trim(), end - i <= 60 ? 1 : 0, 1);
            }
            Due.due("line " + (i + 1) + ": signs", lines.get(i).chars().allMatch(c -> c >= 32 && c < 127) ? 1 : 0, 1);
        }
    }

    private static void aNewObject() {
        HaulWages x = new HaulWages();
        int[] rules = {0, 0, 0, 2, 2, 0, 0};
        for (int what = 0; what < rules.length; what++) {
            Due.due("new: rule(" + what + ")", x.rule(what), rules[what]);
        }
        int[] counts = {0, 0, 0, HaulWages.NONE, 0, 0};
        for (int what = 0; what < counts.length; what++) {
            Due.due("new: count(" + what + ")", x.count(what), counts[what]);
        }
        for (int k = 0; k < 4; k++) {
            Due.due("new: lay(" + k + ", 0, 0)", x.lay(k, 0, 0), -11);
        }
        Due.due("new: good(0, 0)", x.good(0, 0), HaulWages.BAD);
        Due.due("new: one(0, 0)", x.one(0, 0), HaulWages.BAD);
        Due.due("new: fault()", x.fault(), 0);
        Due.due("new: torn()", x.torn(), 0);
        Due.due("new: back(0)", x.back(0), HaulWages.STATE);
        Due.due("new: back(1)", x.back(1), HaulWages.STATE);
    }
}
