/** What the tests of the document's edges share: the sentence that is looked at, answers that are due, a duke made. */
final class Edges {
    static final int NONE = -1, UNKNOWN = -1000000001, OUTSIDE = -1000000002, NOT = -1000000003, FULL = -1000000004;
    static final int LEAST = Integer.MIN_VALUE, MOST = Integer.MAX_VALUE;

    /** One call, or several: the answer of the last is looked at. */
    interface Call {
        int on(SlipperDuke x);
    }

    private static String sentence = "";
    private static int sentences = 0;
    private static int wrong = 0;

    private Edges() {
    }

    /** From here on this sentence of the document is looked at. */
    static void says(String words) {
        sentence = words;
        sentences++;
    }

    static void due(String call, int got, int want) {
        if (got != want) {
            wrong++;
            System.out.println("\"" + sentence + "\": " + call + " answered " + got + ", due is " + want);
        }
    }

    static SlipperDuke fed(SlipperDuke x, String text) {
        for (int i = 0; i < text.length(); i++) x.feed(text.charAt(i));
        return x;
    }

    static SlipperDuke made(String text) {
        SlipperDuke x = fed(new SlipperDuke(), text);
        x.palace();
        due("fault() of '" + text + "'", x.fault(), NONE);
        return x;
    }

    /** How a text is read by a new duke: what palace() answers, and the letter of the fault. */
    static void read(String text, int answer, int letter) {
        SlipperDuke x = fed(new SlipperDuke(), text);
        due("palace() of '" + text + "'", x.palace(), answer);
        due("fault() of '" + text + "'", x.fault(), letter);
    }

    static void end() {
        System.out.println(wrong == 0 ? sentences + " sentences hold" : wrong + " answers are not as due");
        if (wrong != 0) System.exit(1);
    }
}
