/** What the tests share: an answer against the one that is due, a text told letter by letter. */
final class Due {
    private static int asked = 0;
    private static int wrong = 0;
    private static int sentences = 0;
    private static String about = "";

    private Due() {
    }

    /** Names the sentence of the document that the answers behind this are about. */
    static void sentence(String words) {
        sentences++;
        about = "[" + words + "] ";
    }

    static void due(String call, long got, long want) {
        asked++;
        if (got != want) {
            wrong++;
            System.out.println(about + call + " answered " + got + ", due is " + want);
        }
    }

    static void feedAll(HaulWages x, String text) {
        for (int i = 0; i < text.length(); i++) {
            x.feed(text.charAt(i));
        }
    }

    static int tell(HaulWages x, String text) {
        feedAll(x, text);
        return x.text();
    }

    /** A new object to which that text is told. */
    static HaulWages bay(String text) {
        HaulWages x = new HaulWages();
        int lines = tell(x, text);
        if (lines < 0) {
            wrong++;
            System.out.println("the text of a test is refused: " + text + " answered " + lines);
        }
        return x;
    }

    static void finish() {
        String of = sentences == 0 ? "" : " about " + sentences + " sentences";
        System.out.println(asked + " answers" + of + ", " + wrong + " not as due");
        if (wrong != 0 || asked == 0) {
            System.exit(1);
        }
    }
}
