/** For each promise of the document: ordinary inputs, its edges, wrong inputs; all answers worked out by hand. */
public final class PromisesTest {
    private static final int NONE = -1, UNKNOWN = -1000000001, OUTSIDE = -1000000002, NOT = -1000000003, FULL = -1000000004;
    /** He goes where it is quiet alone: 0, 1, 0, 1 and so on. */
    private static final String QUIET = "s16;r1 0;r2 1;r5 0;d0 1;d0 2;p1 10;p2 20;";
    /** He goes where he was seldom: round four rooms, with a fifth that hangs at the third. */
    private static final String NEW = "s1;r4 0;r3 0;r2 1;r1 0;r9 1;d0 1;d1 2;d2 3;d3 0;d2 4;p0 1;p2 2;p4 4;";
    private static final String EIGHT = "s0;r0 0;r0 0;r0 0;r0 0;r0 0;r0 0;r0 0;r0 0;";
    private static final String TWELVE = EIGHT + "d0 1;d0 2;d0 3;d0 4;d0 5;d0 6;d0 7;d1 2;d1 3;d1 4;d1 5;d1 6;";

    private static int wrong = 0;
    private static int promise = 0;

    private static void due(String call, int got, int want) {
        if (got != want) {
            wrong++;
            System.out.println("promise " + promise + ": " + call + " answered " + got + ", due is " + want);
        }
    }

    private static void fed(SlipperDuke x, String text) {
        for (int i = 0; i < text.length(); i++) x.feed(text.charAt(i));
    }

    private static SlipperDuke made(String text) {
        SlipperDuke x = new SlipperDuke();
        fed(x, text);
        x.palace();
        due("fault() of " + text, x.fault(), NONE);
        return x;
    }

    private static void aNewObject() {
        SlipperDuke x = new SlipperDuke();
        int[] told = {0, 0, 0, 0, NONE, 0, NONE, 0, 0, 0, 0, 0, 0, 0, 0, 0};
        for (int what = 0; what < told.length; what++) due("told(" + what + ")", x.told(what), told[what]);
        due("fault()", x.fault(), NONE);
        due("room(0, 0)", x.room(0, 0), UNKNOWN);
        due("petition(0, 0)", x.petition(0, 0), UNKNOWN);
        due("seed(0)", x.seed(0), 0);
        due("goBack(0)", x.goBack(0), NOT);
        due("goBack(1)", x.goBack(1), NOT);
        due("NONE", SlipperDuke.NONE, NONE);
        due("UNKNOWN", SlipperDuke.UNKNOWN, UNKNOWN);
        due("OUTSIDE", SlipperDuke.OUTSIDE, OUTSIDE);
        due("NOT", SlipperDuke.NOT, NOT);
        due("FULL", SlipperDuke.FULL, FULL);
    }

    private static void feed() {
        SlipperDuke x = new SlipperDuke();
        due("feed(-1)", x.feed(-1), OUTSIDE);
        due("feed(256)", x.feed(256), OUTSIDE);
        due("feed(0)", x.feed(0), 1);
        due("feed(255)", x.feed(255), 2);
        for (int i = 3; i <= 240; i++) due("feed(32)", x.feed(32), i);
        due("feed(32), the 241st", x.feed(32), FULL);
        due("feed(256) to a full text", x.feed(256), OUTSIDE);
        due("told(3)", x.told(3), 240);
        due("palace()", x.palace(), -11);
        due("feed(32) anew", x.feed(32), 1);
    }

    private static void text(String text, int answer, int letter) {
        SlipperDuke x = new SlipperDuke();
        fed(x, text);
        due("palace() of '" + text + "'", x.palace(), answer);
        due("fault() of '" + text + "'", x.fault(), letter);
        due("told(3) behind '" + text + "'", x.told(3), 0);
    }

    private static void palace() {
        text("", 0, NONE);
        text("    ", 0, NONE);
        text("s5;", 0, NONE);
        text(" s 5 ; r 1 0 ; ", 1, NONE);
        text("s063;r009 001;", 1, NONE);
        text("s0;r0 0 ;r0   0;d1 0;p1  99;", 2, NONE);
        text(EIGHT, 8, NONE);
        text(TWELVE + "p0 0;p0 0;p0 0;p0 0;p0 0;p7 99;", 8, NONE);
        String many = EIGHT;
        while (many.length() < 240) many += " ";
        text(many, 8, NONE);
    }

    private static void palaceKeepsOrClears() {
        SlipperDuke x = made(QUIET);
        x.hour(3);
        x.write(0, 2);
        x.seed(9);
        x.keep(0);
        x.carpet(0, true);
        fed(x, "s1;s");
        due("palace() with a fault", x.palace(), -13);
        due("fault()", x.fault(), 3);
        due("told(0) is as it was", x.told(0), 3);
        due("told(3) is empty", x.told(3), 0);
        due("told(5) is as it was", x.told(5), 3);
        due("told(14) is as it was", x.told(14), 1);
        due("told(15) is as it was", x.told(15), 1);
        due("goBack(0) to an image from ahead of the fault", x.goBack(0), 1);
        x.nail(2, true);
        x.brick(1, true);
        fed(x, QUIET);
        due("palace()", x.palace(), 3);
        int[] told = {3, 2, 2, 0, 16, 0, 0, 0, 2, 0, 0, 0, 0, 0, 0, 0};
        for (int what = 0; what < told.length; what++) due("told(" + what + ")", x.told(what), told[what]);
        due("fault()", x.fault(), NONE);
        due("goBack(0)", x.goBack(0), NOT);
        due("room(0, 1)", x.room(0, 1), 0);
        due("room(0, 3)", x.room(0, 3), 6);
        due("room(0, 4)", x.room(0, 4), 0);
        due("fit(-1)", x.fit(-1), 64);
        due("seed(0): it stays", x.seed(0), 9);
        x.hour(1);
        fed(x, "s1;r0 0;r7 1;d0 1;");
        x.palace();
        x.hour(5);
        fed(x, "s3;r1 0;r2 0;r9 1;");
        x.palace();
        due("room(0, 3): no doors", x.room(0, 3), 0);
        due("room(0, 2): never governed", x.room(0, 2), 0);
        due("room(1, 0)", x.room(1, 0), 2);
        fed(x, QUIET);
        x.palace();
        x.hour(1);
        due("went(0) of a new way", x.went(0), 1);
        due("fit(-1) of a new way", x.fit(-1), 64);
        due("palace() of nothing", x.palace(), 0);
        int[] none = {0, 0, 0, 0, NONE, 0, NONE, 0, 0, 0, 0, 0, 0, 0, 0, 0};
        for (int what = 0; what < none.length; what++) due("told(" + what + ") of no palace", x.told(what), none[what]);
    }

    private static void fault() {
        due("fault() ahead of all", new SlipperDuke().fault(), NONE);
        String[] first = {"x", "r0 0;", ";", "5", "d0 1;", "p0 0;", "S1;", "\t", "#"};
        for (String t : first) text(t, -11, 0);
        text("  x", -11, 2);
        text("s", -11, 1);
        text("s ", -11, 2);
        text("s5", -11, 2);
        text("s5  ", -11, 4);
        text("sx5;", -11, 1);
        text("s-5;", -11, 1);
        text("s5;x", -11, 3);
        text("s5;;", -11, 3);
        text("s5;7", -11, 3);
        text("s1 2;", -11, 3);
        text("s1\t;", -11, 2);
        text("s1" + (char) 160 + ";", -11, 2);
        text("s1" + (char) 255 + ";", -11, 2);
        text("s1;r9;", -11, 5);
        text("s1;r9 1", -11, 7);
        text("s1;r9 1 0;", -11, 8);
        text("s1;r9,1;", -11, 5);
        text("s1;r", -11, 4);
        text("s64;", -12, 1);
        text("s64", -12, 1);
        text("s99x", -12, 1);
        text("s  100;", -12, 3);
        text("s0063;", -12, 1);
        text("s99999999999999999999;", -12, 1);
        text("s1;r10 1;", -12, 4);
        text("s1;r9 2;", -12, 6);
        text("s1;r91;", -12, 4);
        text("s1;r0000 0;", -12, 4);
        text("s1;r0 0000", -12, 6);
        text("s1;d0 0;", -12, 4);
        text("s1;p0 0;", -12, 4);
        text("s1;r0 0;p1 0;", -12, 9);
        text("s1;r0 0;p0 100;", -12, 11);
        text("s1;r0 0;d0 1;", -12, 11);
        text("s1;r0 0;d1 0;", -12, 9);
        text("s1;r0 0;d0 0000;", -12, 11);
        text("s1;s1;", -13, 3);
        text("s1; sx", -13, 4);
        text(EIGHT + "r0 0;", -13, 43);
        text(EIGHT + "rx", -13, 43);
        text(TWELVE + "d2 3;", -13, 103);
        text("s0;r0 0;p0 1;p0 1;p0 1;p0 1;p0 1;p0 1;p", -13, 38);
        text("s1;r0 0;d0 0;", -14, 11);
        text("s1;r0 0;d0  00x", -14, 12);
        text("s1;r0 0;r0 0;d0 1;d0 1;", -14, 21);
        text("s1;r0 0;r0 0;d0 1;d1 0", -14, 21);
    }

    /** A text ends where it ends, whatever letters a longer one had there before. */
    private static void faultBehindALongerText() {
        SlipperDuke x = made("s5;r1 0;");
        fed(x, "s5");
        due("palace() of 's5'", x.palace(), -11);
        due("fault()", x.fault(), 2);
        fed(x, "s");
        due("palace() of 's'", x.palace(), -11);
        due("fault()", x.fault(), 1);
        fed(x, "s6;r7 1");
        due("palace() of 's6;r7 1'", x.palace(), -11);
        due("fault()", x.fault(), 7);
        for (int i = 0; i < 240; i++) x.feed('5');
        due("palace() of 240 figures", x.palace(), -11);
        x = new SlipperDuke();
        fed(x, "s");
        for (int i = 1; i < 240; i++) x.feed('5');
        due("palace() of a full text", x.palace(), -12);
        fed(x, "s5");
        for (int i = 2; i < 240; i++) x.feed(' ');
        due("palace() of a full text that lacks its end", x.palace(), -11);
        due("fault()", x.fault(), 240);
    }

    private static void told() {
        SlipperDuke x = made(QUIET);
        int[] begin = {3, 2, 2, 0, 16, 0, 0, 0, 2, 0, 0, 0, 0, 0, 0, 0};
        for (int what = 0; what < 16; what++) due("told(" + what + ")", x.told(what), begin[what]);
        x.hour(3);
        x.nail(2, true);
        x.brick(1, true);
        x.carpet(0, true);
        x.teach(7);
        x.write(0, 0);
        x.feed(32);
        int[] then = {3, 2, 2, 1, 7, 3, 1, 3, 3, 4, 2, 1, 10, 3, 1, 5};
        for (int what = 0; what < 16; what++) due("then told(" + what + ")", x.told(what), then[what]);
        due("told(-1)", x.told(-1), OUTSIDE);
        due("told(16)", x.told(16), OUTSIDE);
        SlipperDuke noRooms = made("s9;");
        due("told(4)", noRooms.told(4), 9);
        due("told(6)", noRooms.told(6), NONE);
    }

    private static void room() {
        SlipperDuke x = made("s63;r4 0;r3 1;r2 0;d0 1;d0 2;");
        due("room(0, 0)", x.room(0, 0), 4);
        due("room(0, 2): 3 * 4 + 3 * 3", x.room(0, 2), 21);
        due("room(1, 2): 3 * 3", x.room(1, 2), 9);
        due("room(0, 3)", x.room(0, 3), 6);
        due("room(2, 3)", x.room(2, 3), 1);
        x.brick(0, true);
        due("room(0, 3) behind a brick", x.room(0, 3), 4);
        due("room(1, 3) behind a brick", x.room(1, 3), 0);
        x.nail(2, true);
        due("room(0, 3) is not by nails", x.room(0, 3), 4);
        due("room(2, 4)", x.room(2, 4), 1);
        due("room(1, 4)", x.room(1, 4), 0);
        x.hour(9);
        due("room(0, 1)", x.room(0, 1), 9);
        due("room(0, 2): 12 + 9 + 3 * 9", x.room(0, 2), 48);
        x.hour(60);
        due("room(0, 1) is counted on", x.room(0, 1), 69);
        due("room(0, 2): 9 at most", x.room(0, 2), 48);
        x.nail(2, false);
        x.hour(49);
        due("room(0, 2), WEAR 49", x.room(0, 2), 48);
        x.hour(1);
        due("told(7)", x.told(7), 50);
        due("room(0, 2), WEAR 50: 24 + 9 + 27", x.room(0, 2), 60);
        due("room(1, 2), WEAR 50: 18", x.room(1, 2), 18);
        due("room(-1, 0)", x.room(-1, 0), UNKNOWN);
        due("room(3, 0)", x.room(3, 0), UNKNOWN);
        due("room(3, 9)", x.room(3, 9), UNKNOWN);
        due("room(0, -1)", x.room(0, -1), OUTSIDE);
        due("room(0, 5)", x.room(0, 5), OUTSIDE);
    }

    private static void petition() {
        SlipperDuke x = made(QUIET);
        due("petition(1, 0)", x.petition(1, 0), 2);
        due("petition(1, 1)", x.petition(1, 1), 20);
        due("petition(0, 2)", x.petition(0, 2), 0);
        x.hour(2);
        due("petition(0, 2), heard", x.petition(0, 2), 1);
        due("petition(1, 2), not heard", x.petition(1, 2), 0);
        due("petition(-1, 0)", x.petition(-1, 0), UNKNOWN);
        due("petition(2, 7)", x.petition(2, 7), UNKNOWN);
        due("petition(0, -1)", x.petition(0, -1), OUTSIDE);
        due("petition(0, 3)", x.petition(0, 3), OUTSIDE);
    }

    private static void went() {
        SlipperDuke x = made(NEW);
        due("went(0) ahead of all", x.went(0), NONE);
        x.hour(2);
        due("went(0)", x.went(0), 12);
        due("went(1)", x.went(1), 1);
        due("went(2)", x.went(2), NONE);
        due("went(-1)", x.went(-1), NONE);
        for (int d = 0; d < 5; d++) x.brick(d, true);
        x.hour(5);
        due("told(13): who stays does not go", x.told(13), 2);
        due("went(0) is the same", x.went(0), 12);
        for (int d = 0; d < 5; d++) x.brick(d, false);
        x.hour(20);
        due("told(13): 16 at most", x.told(13), 16);
        due("went(16)", x.went(16), NONE);
        SlipperDuke y = made(QUIET);
        y.hour(17);
        due("went(0) of 17", y.went(0), 1);
        due("went(15) of 17", y.went(15), 10);
    }

    private static void hour() {
        SlipperDuke x = made(NEW);
        due("hour(1)", x.hour(1), 1);
        due("told(11): he governs where he is, then goes", x.told(11), 1);
        due("hour(1)", x.hour(1), 2);
        due("hour(1): of like ones the least", x.hour(1), 3);
        due("hour(1)", x.hour(1), 0);
        due("hour(1): both seen once", x.hour(1), 1);
        due("hour(2): the fifth room is new", x.hour(2), 4);
        due("hour(1): one door alone", x.hour(1), 2);
        due("told(5)", x.told(5), 8);
        due("told(12)", x.told(12), 7);
        due("hour(0)", x.hour(0), OUTSIDE);
        due("hour(61)", x.hour(61), OUTSIDE);
        due("hour(0) without a palace", new SlipperDuke().hour(0), OUTSIDE);
        due("hour(1) without a palace", new SlipperDuke().hour(1), NOT);
        due("hour(60) without rooms", made("s1;").hour(60), NOT);
    }

    private static void hoursAreFull() {
        SlipperDuke x = made("s16;r0 0;r0 0;d0 1;p0 99;");
        for (int i = 0; i < 150; i++) x.hour(60);
        due("told(5)", x.told(5), 9000);
        due("told(7): 999 at most", x.told(7), 999);
        due("hour(1) at 9000", x.hour(1), 1);
        due("hour(1) at 9001", x.hour(1), FULL);
        due("drift(1) at 9001", x.drift(1), FULL);
        due("hour(61) at 9001", x.hour(61), OUTSIDE);
        due("where(100) is tried all the same", x.where(100), 1);
        due("room(0, 1)", x.room(0, 1), 4501);
        due("undo()", x.undo(), 15);
        due("drift(60) at 9000", x.drift(60) >= 0 ? 1 : 0, 1);
        due("told(5)", x.told(5), 9060);
    }

    private static void nailsBarTheWay() {
        SlipperDuke x = made(QUIET);
        x.nail(0, true);
        due("hour(1): he may be where a nail is", x.hour(1), 1);
        due("hour(3): he cannot go back to it", x.hour(3), 1);
        due("told(7)", x.told(7), 1);
        due("room(1, 1)", x.room(1, 1), 3);
    }

    private static void carpet() {
        SlipperDuke x = made("s4;r0 0;r0 0;r0 0;d0 1;d0 2;");
        due("where(1)", x.where(1), 1);
        due("carpet(2, true)", x.carpet(2, true), 0);
        due("carpet(2, true) again", x.carpet(2, true), 1);
        due("told(8)", x.told(8), 4);
        due("where(1) by a carpet", x.where(1), 2);
        due("carpet(2, false)", x.carpet(2, false), 1);
        due("carpet(2, false) again", x.carpet(2, false), 0);
        due("told(8)", x.told(8), 0);
        due("told(15): all of them can be undone", x.told(15), 4);
        due("carpet(-1, true)", x.carpet(-1, true), UNKNOWN);
        due("carpet(3, true)", x.carpet(3, true), UNKNOWN);
        due("told(15) is by what was not refused", x.told(15), 4);
    }

    private static void noise() {
        SlipperDuke x = made(QUIET);
        due("noise(1, 9)", x.noise(1, 9), 2);
        due("noise(1, 9) again", x.noise(1, 9), 9);
        due("room(1, 0)", x.room(1, 0), 9);
        due("room(0, 0)", x.room(0, 0), 1);
        due("room(2, 0)", x.room(2, 0), 5);
        due("where(1)", x.where(1), 2);
        due("noise(1, 0)", x.noise(1, 0), 9);
        due("noise(1, -1)", x.noise(1, -1), OUTSIDE);
        due("noise(1, 10)", x.noise(1, 10), OUTSIDE);
        due("noise(3, 10)", x.noise(3, 10), UNKNOWN);
        due("noise(-1, 0)", x.noise(-1, 0), UNKNOWN);
        due("room(1, 0)", x.room(1, 0), 0);
        SlipperDuke y = made(EIGHT);
        due("noise(7, 9)", y.noise(7, 9), 0);
        due("noise(7, 8)", y.noise(7, 8), 9);
        due("room(6, 0)", y.room(6, 0), 0);
    }

    private static void nail() {
        SlipperDuke x = made(QUIET);
        due("nail(1, true)", x.nail(1, true), 0);
        due("nail(1, true) again", x.nail(1, true), 1);
        due("told(9)", x.told(9), 2);
        due("where(1)", x.where(1), 2);
        due("nail(1, false)", x.nail(1, false), 1);
        due("nail(1, false) again", x.nail(1, false), 0);
        due("where(1)", x.where(1), 1);
        due("nail(3, true)", x.nail(3, true), UNKNOWN);
        due("nail(-1, false)", x.nail(-1, false), UNKNOWN);
    }

    private static void brick() {
        SlipperDuke x = made(QUIET);
        due("brick(0, true)", x.brick(0, true), 0);
        due("brick(0, true) again", x.brick(0, true), 1);
        due("told(10)", x.told(10), 1);
        due("where(1)", x.where(1), 2);
        due("brick(1, true)", x.brick(1, true), 0);
        due("where(1): he stays", x.where(1), 0);
        due("brick(0, false)", x.brick(0, false), 1);
        due("brick(0, false) again", x.brick(0, false), 0);
        due("told(10)", x.told(10), 2);
        due("where(1)", x.where(1), 1);
        due("brick(2, true)", x.brick(2, true), UNKNOWN);
        due("brick(-1, true)", x.brick(-1, true), UNKNOWN);
    }

    private static void chalk() {
        SlipperDuke x = made(QUIET);
        x.hour(2);
        due("told(12)", x.told(12), 10);
        due("chalk(0, 1)", x.chalk(0, 1), 1);
        due("told(11): chalked anew", x.told(11), 0);
        due("told(12) stays", x.told(12), 10);
        x.hour(4);
        due("told(12): heard each time, each once", x.told(12), 20);
        due("chalk(1, 0)", x.chalk(1, 0), 2);
        due("petition(1, 0)", x.petition(1, 0), 0);
        x.hour(2);
        due("told(12)", x.told(12), 40);
        due("told(11)", x.told(11), 3);
        due("chalk(2, 0)", x.chalk(2, 0), UNKNOWN);
        due("chalk(-1, 0)", x.chalk(-1, 0), UNKNOWN);
        due("chalk(0, 3)", x.chalk(0, 3), UNKNOWN);
        due("chalk(0, -1)", x.chalk(0, -1), UNKNOWN);
    }

    private static void sole() {
        SlipperDuke x = made(QUIET);
        x.hour(60);
        due("room(1, 2), worn", x.room(1, 2), 4);
        due("sole()", x.sole(), 60);
        due("told(7)", x.told(7), 0);
        due("room(1, 2), soled", x.room(1, 2), 2);
        due("sole() again", x.sole(), 0);
        due("sole() without rooms", made("s1;").sole(), 0);
        due("sole() without a palace", new SlipperDuke().sole(), NOT);
    }

    private static void teach() {
        SlipperDuke x = made(QUIET);
        due("teach(63)", x.teach(63), 16);
        due("teach(0)", x.teach(0), 63);
        due("told(4)", x.told(4), 0);
        due("room(2, 2)", x.room(2, 2), 0);
        due("teach(64)", x.teach(64), UNKNOWN);
        due("teach(-1)", x.teach(-1), UNKNOWN);
        due("teach(5) without rooms", made("s1;").teach(5), 1);
        due("teach(64) without a palace", new SlipperDuke().teach(64), UNKNOWN);
        due("teach(63) without a palace", new SlipperDuke().teach(63), NOT);
    }

    private static void drift() {
        SlipperDuke x = made(QUIET);
        // From 0: 12345 draws room 0 (12345 / 65536 is 0), 1406932606 draws 21468, by 5: 3, a nail.
        due("drift(1)", x.drift(1), 1);
        due("told(9)", x.told(9), 1);
        due("seed(0)", x.seed(0), 1406932606);
        due("told(5)", x.told(5), 1);
        due("undo()", x.undo(), 0);
        due("told(9)", x.told(9), 0);
        // From 1: 1103527590 draws 16838, by 3: 2, then 377401575 draws 5758, by 5: 3, a nail.
        due("seed(1)", x.seed(1), 0);
        due("drift(1)", x.drift(1), 1);
        due("told(9)", x.told(9), 4);
        due("drift(0)", x.drift(0), OUTSIDE);
        due("drift(61)", x.drift(61), OUTSIDE);
        due("seed(0): a refused drift draws nothing", x.seed(0), 377401575);
        due("drift(60)", x.drift(60) >= 0 ? 1 : 0, 1);
        due("told(15)", x.told(15), 2);
        due("drift(61) without a palace", new SlipperDuke().drift(61), OUTSIDE);
        due("drift(1) without a palace", new SlipperDuke().drift(1), NOT);
        due("drift(1) without rooms", made("s1;").drift(1), NOT);
    }

    private static void driftChanges() {
        SlipperDuke laid = made(QUIET);
        laid.seed(6);
        laid.drift(1);
        due("told(8): laid in 2", laid.told(8), 6);
        due("seed(0): two draws", laid.seed(0), 1672197364);
        SlipperDuke takenUp = made(QUIET);
        takenUp.seed(7);
        takenUp.drift(1);
        due("told(8): taken up in 1", takenUp.told(8), 0);
        SlipperDuke loud = made(QUIET);
        loud.seed(2);
        loud.drift(1);
        due("room(2, 0): noise by a third draw", loud.room(2, 0), 9);
        due("seed(0): three draws", loud.seed(0), 671064393);
        SlipperDuke nailed = made(QUIET);
        nailed.nail(1, true);
        nailed.nail(2, true);
        nailed.seed(8);
        due("drift(1): ahead of the hour the nail in 1 goes", nailed.drift(1), 1);
        due("told(9)", nailed.told(9), 4);
    }

    private static void undoneWay() {
        SlipperDuke x = made(NEW);
        x.hour(8);
        int[] way = {42, 24, 12, 1, 30, 23, 12, 1, NONE};
        for (int i = 0; i < way.length; i++) due("went(" + i + ")", x.went(i), way[i]);
        int fits = x.fit(-1);
        x.noise(1, 0);
        x.noise(3, 9);
        x.teach(24);
        x.hour(40);
        for (int left = 4; left > 0; left--) x.undo();
        for (int i = 0; i < way.length; i++) due("went(" + i + ") undone", x.went(i), way[i]);
        due("fit(-1) undone", x.fit(-1), fits);
    }

    private static void undo() {
        SlipperDuke x = made(QUIET);
        due("undo() of nothing", x.undo(), NOT);
        x.write(0, 7);
        x.seed(3);
        x.hour(2);
        x.carpet(0, true);
        x.noise(0, 8);
        x.nail(2, true);
        x.brick(1, true);
        x.chalk(0, 2);
        x.sole();
        x.teach(33);
        x.drift(3);
        due("told(15)", x.told(15), 9);
        due("undo() of drift", x.undo(), 8);
        due("told(5)", x.told(5), 2);
        due("told(13)", x.told(13), 2);
        due("told(4)", x.told(4), 33);
        due("undo() of teach", x.undo(), 7);
        due("told(4)", x.told(4), 16);
        due("undo() of sole", x.undo(), 6);
        due("told(7)", x.told(7), 2);
        due("undo() of chalk", x.undo(), 5);
        due("petition(0, 0)", x.petition(0, 0), 1);
        due("petition(0, 2)", x.petition(0, 2), 1);
        due("undo() of brick", x.undo(), 4);
        due("told(10)", x.told(10), 0);
        due("room(0, 3)", x.room(0, 3), 6);
        due("undo() of nail", x.undo(), 3);
        due("told(9)", x.told(9), 0);
        due("undo() of noise", x.undo(), 2);
        due("room(0, 0)", x.room(0, 0), 1);
        due("undo() of carpet", x.undo(), 1);
        due("told(8)", x.told(8), 2);
        due("undo() of hour", x.undo(), 0);
        int[] told = {3, 2, 2, 0, 16, 0, 0, 0, 2, 0, 0, 0, 0, 0, 1, 0};
        for (int what = 0; what < 16; what++) due("told(" + what + ")", x.told(what), told[what]);
        due("room(0, 1)", x.room(0, 1), 0);
        due("undo() of nothing more", x.undo(), NOT);
        due("seed(0) is not undone", x.seed(0) != 3 ? 1 : 0, 1);
        for (int n = 0; n < 20; n++) x.noise(0, n % 10);
        due("told(15): 16 at most", x.told(15), 16);
        for (int left = 15; left >= 0; left--) due("undo()", x.undo(), left);
        due("room(0, 0): the oldest are lost", x.room(0, 0), 3);
        due("undo()", x.undo(), NOT);
    }

    /**
     * Room 1 has doors to all others, among which he goes by turns. Room 3 pulls by 8, when he is worn; each of the
     * rooms 0 and 2 was governed nine times, the four others eight times, one of these ahead of all, when he comes there.
     */
    private static void aHundredHours() {
        String doors = "d1 0;d1 2;d1 3;d1 4;d1 5;d1 6;d1 7;";
        SlipperDuke x = made("s25;r0 1;r0 1;r0 1;r1 0;r0 1;r0 1;r0 1;r0 1;" + doors + "p3 5;");
        due("when(3)", x.when(3), 100);
        due("where(100)", x.where(100), 3);
        due("governed(3, 100): he governs there later", x.governed(3, 100), 0);
        due("willHear(100): he hears there later", x.willHear(100), 0);
        due("otherwise(29)", x.otherwise(29), 100);
        x.hour(2);
        due("willHear(98) two hours on", x.willHear(98), 0);
        due("willHear(99) two hours on", x.willHear(99), 5);
        SlipperDuke later = made("s25;r0 1;r0 1;r0 1;r0 1;r1 0;r0 1;r0 1;r0 1;" + doors);
        due("when(4): it is 102", later.when(4), NONE);
        due("otherwise(29): it is 102", later.otherwise(29), NONE);
        later.hour(2);
        due("when(4) two hours on", later.when(4), 100);
        // Room 0 pulls by 4 * 2 + 1; 2 is governed six times ahead of that, 3 seven times, four others nine times.
        SlipperDuke ring = made("s21;r4 1;r0 1;r0 0;r1 1;r0 1;r0 1;r0 1;r0 1;" + doors);
        due("ring()", ring.ring(), 100);
        ring.noise(3, 0);
        due("ring(): it is 104", ring.ring(), NONE);
    }

    private static void where() {
        SlipperDuke x = made(NEW);
        int[] rooms = {0, 1, 2, 3, 0, 1, 2, 4, 2};
        for (int n = 0; n < rooms.length; n++) due("where(" + n + ")", x.where(n), rooms[n]);
        due("told(5): nothing changes", x.told(5), 0);
        due("room(0, 1): nothing changes", x.room(0, 1), 0);
        due("where(100)", made(QUIET).where(100), 0);
        due("where(99)", made(QUIET).where(99), 1);
        due("where(-1)", x.where(-1), OUTSIDE);
        due("where(101)", x.where(101), OUTSIDE);
        due("where(101) without rooms", made("s1;").where(101), OUTSIDE);
        due("where(0) without rooms", made("s1;").where(0), NOT);
    }

    private static void when() {
        SlipperDuke x = made(NEW);
        int[] hours = {0, 1, 2, 3, 7};
        for (int a = 0; a < hours.length; a++) due("when(" + a + ")", x.when(a), hours[a]);
        due("when(2) of no way", made(QUIET).when(2), NONE);
        due("when(5)", x.when(5), UNKNOWN);
        due("when(-1)", x.when(-1), UNKNOWN);
        due("when(0) without a palace", new SlipperDuke().when(0), UNKNOWN);
    }

    /** Room 1 with noise 2 and a carpet, room 2 with noise 1 and none: alike, until noise counts twice by WEAR. */
    private static void whenHeIsWorn() {
        SlipperDuke x = made("s52;r0 1;r2 1;r1 0;d0 1;d0 2;");
        due("room(1, 2)", x.room(1, 2), 6);
        due("room(2, 2)", x.room(2, 2), 6);
        due("when(2): of like ones the least, until WEAR is 50", x.when(2), 51);
        due("stand()", x.stand(), 1);
        due("governed(2, 51)", x.governed(2, 51), 0);
        due("governed(2, 52)", x.governed(2, 52), 1);
        due("otherwise(4)", x.otherwise(4), 51);
        x.hour(1);
        x.sole();
        due("when(2), soled at an odd hour", x.when(2), 52);
    }

    private static void governed() {
        SlipperDuke x = made(NEW);
        due("governed(0, 1)", x.governed(0, 1), 1);
        due("governed(1, 1)", x.governed(1, 1), 0);
        due("governed(2, 8)", x.governed(2, 8), 2);
        due("governed(2, 9)", x.governed(2, 9), 3);
        due("governed(0, 100)", made(QUIET).governed(0, 100), 50);
        x.hour(5);
        due("governed(0, 1) is from now", x.governed(0, 1), 0);
        due("governed(5, 0)", x.governed(5, 0), UNKNOWN);
        due("governed(-1, 1)", x.governed(-1, 1), UNKNOWN);
        due("governed(0, 0)", x.governed(0, 0), OUTSIDE);
        due("governed(0, 101)", x.governed(0, 101), OUTSIDE);
    }

    private static void ring() {
        SlipperDuke x = made(NEW);
        due("ring()", x.ring(), 4);
        x.hour(2);
        due("ring() from 2: 3 0 1 2", x.ring(), 4);
        x.hour(4);
        due("ring() from 2 again: 4 2", x.ring(), 2);
        due("ring() of two rooms", made(QUIET).ring(), 2);
        due("ring(): he stays", made("s1;r0 0;").ring(), NONE);
        due("ring(): he never comes back", made("s16;r9 0;r0 0;r0 0;d0 1;d1 2;").ring(), NONE);
        due("ring() without rooms", made("s1;").ring(), NOT);
    }

    private static void carpets() {
        SlipperDuke x = made("s4;r0 0;r0 0;r0 1;r0 0;d0 1;d0 2;d2 3;d0 3;");
        due("carpets(0, 0)", x.carpets(0, 0), 0);
        due("carpets(2, 0)", x.carpets(2, 0), NONE);
        due("carpets(2, 1)", x.carpets(2, 1), 0);
        due("carpets(1, 1): laid in 1 or taken up in 2, of like ones the least", x.carpets(1, 1), 2);
        due("carpets(3, 1): laid in 3, taken up in 2", x.carpets(3, 1), 12);
        due("carpets(3, 2): laid in 3 is enough", x.carpets(3, 2), 8);
        due("told(8): nothing changes", x.told(8), 4);
        due("carpets(4, 99)", x.carpets(4, 99), UNKNOWN);
        due("carpets(-1, 0)", x.carpets(-1, 0), UNKNOWN);
        due("carpets(0, -1)", x.carpets(0, -1), OUTSIDE);
        due("carpets(0, 21)", x.carpets(0, 21), OUTSIDE);
        SlipperDuke y = made("s61;r9 0;r9 1;r1 0;r3 1;d1 3;d1 2;d3 2;d2 0;d3 0;d0 1;");
        due("carpets(1, 20)", y.carpets(1, 20), 8);
        due("carpets(1, 19)", y.carpets(1, 19), NONE);
        due("carpets(2, 20) by a rule that feels none", made(QUIET).carpets(2, 20), NONE);
    }

    private static void bricks() {
        SlipperDuke x = made(NEW);
        due("bricks(0): he is there", x.bricks(0), NONE);
        due("bricks(4): one door", x.bricks(4), 16);
        due("bricks(2): of like ones the least", x.bricks(2), 5);
        x.nail(1, true);
        due("bricks(2) behind a nail", x.bricks(2), 4);
        due("bricks(1): a nail bars it", x.bricks(1), 0);
        x.nail(0, true);
        due("bricks(2): a nail where he is bars nothing", x.bricks(2), 4);
        x.brick(2, true);
        due("bricks(2) behind a brick", x.bricks(2), 0);
        due("bricks(3): besides those that are", x.bricks(3), 8);
        due("told(10): nothing changes", x.told(10), 4);
        due("bricks(5)", x.bricks(5), UNKNOWN);
        due("bricks(-1)", x.bricks(-1), UNKNOWN);
        SlipperDuke six = made(EIGHT + "d0 1;d0 2;d0 3;d0 4;d0 5;d0 6;d1 7;d2 7;d3 7;d4 7;d5 7;d6 7;");
        due("bricks(7): six doors", six.bricks(7), 63);
        due("bricks(6)", six.bricks(6), 2080);
    }

    private static void quietest() {
        SlipperDuke x = made("s0;r9 0;r5 0;r3 0;r1 0;r7 0;d0 1;d0 2;d2 3;d3 1;");
        due("quietest(0)", x.quietest(0), 0);
        due("quietest(1): straight", x.quietest(1), 5);
        due("quietest(3): by 2", x.quietest(3), 4);
        due("quietest(4): no door", x.quietest(4), NONE);
        x.noise(1, 9);
        x.noise(2, 0);
        x.brick(0, true);
        due("quietest(1): by 2 and 3", x.quietest(1), 10);
        x.nail(3, true);
        due("quietest(1) behind a nail", x.quietest(1), NONE);
        due("quietest(3): a nail lies there", x.quietest(3), NONE);
        x.nail(0, true);
        due("quietest(0): he is there", x.quietest(0), 0);
        due("quietest(2)", x.quietest(2), 0);
        due("quietest(5)", x.quietest(5), UNKNOWN);
        due("quietest(-1)", x.quietest(-1), UNKNOWN);
    }

    private static void stand() {
        SlipperDuke x = made(NEW);
        due("stand()", x.stand(), 1);
        x.hour(2);
        due("stand()", x.stand(), 3);
        due("stand(): he stays", made("s1;r0 0;r0 0;").stand(), NONE);
        due("stand() without rooms", made("s1;").stand(), NOT);
        due("stand() without a palace", new SlipperDuke().stand(), NOT);
    }

    private static void willHear() {
        SlipperDuke x = made(NEW);
        due("willHear(1)", x.willHear(1), 1);
        due("willHear(2)", x.willHear(2), 1);
        due("willHear(3)", x.willHear(3), 3);
        due("willHear(7)", x.willHear(7), 3);
        due("willHear(8)", x.willHear(8), 7);
        due("willHear(100)", x.willHear(100), 7);
        due("told(11): nothing changes", x.told(11), 0);
        x.hour(3);
        due("willHear(100): what is heard is not again", x.willHear(100), 4);
        due("willHear(0)", x.willHear(0), OUTSIDE);
        due("willHear(101)", x.willHear(101), OUTSIDE);
        due("willHear(0) without rooms", made("s1;").willHear(0), OUTSIDE);
        due("willHear(1) without rooms", made("s1;").willHear(1), NOT);
    }

    private static void dance() {
        SlipperDuke x = new SlipperDuke();
        due("dance(0, 0)", x.dance(0, 0), 1000000000);
        due("dance(60, 0)", x.dance(60, 0), 1000000000);
        due("dance(1, 100)", x.dance(1, 100), 0);
        due("dance(1, 1)", x.dance(1, 1), 990000000);
        due("dance(2, 25)", x.dance(2, 25), 562500000);
        due("dance(5, 1): 99 ^ 5 / 10", x.dance(5, 1), 950990049);
        due("dance(6, 1): cut", x.dance(6, 1), 941480148);
        due("dance(60, 99)", x.dance(60, 99), 0);
        due("dance(-1, 0)", x.dance(-1, 0), OUTSIDE);
        due("dance(61, 0)", x.dance(61, 0), OUTSIDE);
        due("dance(0, -1)", x.dance(0, -1), OUTSIDE);
        due("dance(0, 101)", x.dance(0, 101), OUTSIDE);
    }

    private static void fit() {
        SlipperDuke x = made(QUIET);
        due("fit(-1) of no way", x.fit(-1), 64);
        due("fit(63) of no way", x.fit(63), 63);
        due("fit(-2)", x.fit(-2), NONE);
        due("fit(64)", x.fit(64), NONE);
        x.hour(1);
        due("fit(-1): 1 has less of all", x.fit(-1), 64);
        SlipperDuke y = made("s16;r0 0;r1 1;r0 0;d0 1;d0 2;");
        y.hour(1);
        due("went(0)", y.went(0), 2);
        // 2 is liked more than 1, if 3 s is less than q: s is 0, and q is 1 to 3, n is any.
        due("fit(-1)", y.fit(-1), 12);
        due("fit(0)", y.fit(0), 16);
        due("fit(4)", y.fit(4), 32);
        due("fit(11)", y.fit(11), 51);
        due("fit(12)", y.fit(12), NONE);
        y.noise(2, 9);
        y.carpet(1, false);
        y.nail(1, true);
        y.brick(0, true);
        y.teach(5);
        due("fit(-1) is by all as it was then", y.fit(-1), 12);
        y.undo();
        y.undo();
        y.undo();
        y.carpet(1, true);
        y.noise(1, 0);
        y.noise(2, 1);
        y.hour(2);
        // He came back and went 0 to 1, at 0 against 1 and 3 s and n more: every rule that fitted fits.
        due("fit(-1) by both", y.fit(-1), 12);
        due("fit(0) without a palace", new SlipperDuke().fit(0), 0);
        SlipperDuke z = made("s0;r0 0;r0 0;r0 1;d0 1;d0 2;");
        z.hour(2);
        z.teach(4);
        z.hour(1);
        due("went(0)", z.went(0), 2);
        // The first hour wants s 0 (or 1 were not liked), the second with s 0 n above 0.
        due("fit(-1)", z.fit(-1), 12);
        due("fit(0)", z.fit(0), 1);
        z.teach(0);
        z.hour(2);
        due("fit(-1): 1 and 2 were governed once each", z.fit(-1), 12);
        z.hour(2);
        due("fit(-1): none goes so, now that 1 was governed more", z.fit(-1), 0);
        due("fit(0) of none", z.fit(0), NONE);
        due("tells() of none", z.tells(), NONE);
    }

    /** 0 to 1 wants q not above 3 s with n 0, 0 to 2 when worn 2 q above 3 s: q is 2 or 3, s is 1. */
    private static void fitWhenWorn() {
        SlipperDuke x = made("s52;r0 1;r2 1;r1 0;d0 1;d0 2;");
        due("hour(51)", x.hour(51), 2);
        due("fit(-1)", x.fit(-1), 2);
        due("fit(0)", x.fit(0), 36);
        due("fit(1)", x.fit(1), 52);
        x.sole();
        due("fit(-1), soled", x.fit(-1), 2);
    }

    private static void tells() {
        SlipperDuke x = made("s16;r0 0;r0 0;r0 1;d0 1;d0 2;");
        // As it is, s above 0 goes to 2 (48), else to 1 (16); with all carpets alike all go to 1.
        due("tells(): a carpet that changes nothing", x.tells(), 0);
        SlipperDuke y = made("s16;r0 0;r0 0;r0 0;r0 0;d0 1;d0 2;d0 3;");
        due("tells(): laid in 2 it parts them", y.tells(), 2);
        due("told(8): nothing changes", y.told(8), 0);
        due("tells(): one way alone", made("s1;r0 0;r0 0;d0 1;").tells(), NONE);
        due("tells() without rooms", made("s1;").tells(), NONE);
        SlipperDuke z = made("s16;r0 0;r1 0;r0 1;d0 1;d0 2;");
        // Taken up in 2: only q 0 goes to 1 (16 of 64); laid in 1: so too; in 0: s 0 and q 0 alone (4).
        due("tells()", z.tells(), 1);
    }

    private static void teachFor() {
        SlipperDuke x = made("s21;r0 0;r0 1;r1 0;r9 0;d0 1;d0 2;d0 3;");
        due("teachFor(0)", x.teachFor(0), 21);
        due("teachFor(2)", x.teachFor(2), 21);
        due("teachFor(3)", x.teachFor(3), NONE);
        x.carpet(1, false);
        due("teachFor(2)", x.teachFor(2), 21);
        due("teachFor(212)", x.teachFor(212), 21);
        due("teachFor(213): n above q, 5 and 22 are as near", x.teachFor(213), 5);
        due("teachFor(1)", x.teachFor(1), NONE);
        due("teachFor(4)", x.teachFor(4), NONE);
        due("teachFor(21212121): 3 n not above q", x.teachFor(21212121), 20);
        due("told(4): nothing changes", x.told(4), 21);
        due("teachFor(-1)", x.teachFor(-1), OUTSIDE);
        due("teachFor(100000000)", x.teachFor(100000000), OUTSIDE);
        due("teachFor(111111111)", x.teachFor(111111111), OUTSIDE);
        due("teachFor(5)", x.teachFor(5), OUTSIDE);
        due("teachFor(52)", x.teachFor(52), OUTSIDE);
        due("teachFor(20)", x.teachFor(20), OUTSIDE);
        due("teachFor(202)", x.teachFor(202), OUTSIDE);
        due("teachFor(0) by rule 0", made(EIGHT).teachFor(0), 0);
        due("teachFor(99999999): no ninth room", made(EIGHT).teachFor(99999999), OUTSIDE);
        due("teachFor(11111111): he stays", made(EIGHT).teachFor(11111111), 0);
        due("teachFor(1) without rooms", made("s1;").teachFor(1), OUTSIDE);
        due("teachFor(0) without rooms", made("s1;").teachFor(0), NOT);
    }

    private static void otherwise() {
        SlipperDuke x = made(NEW);
        due("otherwise(1): the same", x.otherwise(1), NONE);
        due("otherwise(0): 0 1 0 against 0 1 2", x.otherwise(0), 2);
        due("otherwise(16): 0 3 against 0 1", x.otherwise(16), 1);
        due("told(4): nothing changes", x.told(4), 1);
        due("otherwise(64)", x.otherwise(64), UNKNOWN);
        due("otherwise(-1)", x.otherwise(-1), UNKNOWN);
        due("otherwise(64) without rooms", made("s1;").otherwise(64), UNKNOWN);
        due("otherwise(0) without rooms", made("s1;").otherwise(0), NOT);
    }

    private static void write() {
        SlipperDuke x = made(QUIET);
        due("write(3, -1)", x.write(3, -1), UNKNOWN);
        due("write(-1, 0)", x.write(-1, 0), UNKNOWN);
        due("write(0, -1)", x.write(0, -1), OUTSIDE);
        due("write(0, 10000)", x.write(0, 10000), OUTSIDE);
        due("write(0, 9999)", x.write(0, 9999), 1);
        for (int i = 2; i <= 15; i++) due("write(2, 0)", x.write(2, 0), i);
        due("write(0, 0), the 16th", x.write(0, 0), FULL);
        due("write(0, -1), the 16th", x.write(0, -1), OUTSIDE);
        due("told(14)", x.told(14), 15);
        due("told(15)", x.told(15), 0);
    }

    private static void tear() {
        SlipperDuke x = made(QUIET);
        due("tear() of nothing", x.tear(), 0);
        x.write(0, 1);
        x.write(0, 1);
        due("tear()", x.tear(), 2);
        due("told(14)", x.told(14), 0);
        due("tear() again", x.tear(), 0);
        due("write(0, 1) anew", x.write(0, 1), 1);
    }

    private static void judge() {
        SlipperDuke x = made(QUIET);
        due("judge() of nothing", x.judge(), NONE);
        x.write(0, 2);
        x.write(1, 1);
        x.write(2, 0);
        due("judge()", x.judge(), 0);
        x.hour(3);
        due("judge(): all is so", x.judge(), NONE);
        x.hour(1);
        due("judge()", x.judge(), 1);
        x.undo();
        due("judge() undone", x.judge(), NONE);
        x.keep(0);
        x.tear();
        x.write(2, 1);
        x.goBack(0);
        due("judge(): images keep no book", x.judge(), 0);
        due("told(14)", x.told(14), 1);
    }

    private static void seed() {
        SlipperDuke x = new SlipperDuke();
        due("seed(2147483647)", x.seed(2147483647), 0);
        due("seed(-1)", x.seed(-1), OUTSIDE);
        due("seed(-2147483648)", x.seed(-2147483648), OUTSIDE);
        due("seed(0)", x.seed(0), 2147483647);
        due("seed(0)", x.seed(0), 0);
    }

    private static void keep() {
        SlipperDuke x = made(QUIET);
        due("keep(-1)", x.keep(-1), UNKNOWN);
        due("keep(2)", x.keep(2), UNKNOWN);
        x.carpet(0, true);
        due("told(15)", x.told(15), 1);
        due("keep(0)", x.keep(0), 1);
        due("told(15): nothing can be undone", x.told(15), 0);
        due("undo()", x.undo(), NOT);
        x.carpet(0, false);
        due("keep(1)", x.keep(1), 1);
        x.goBack(0);
        due("told(8) of the first", x.told(8), 3);
        x.goBack(1);
        due("told(8) of the second", x.told(8), 2);
        due("keep(0) of no palace", new SlipperDuke().keep(0), 1);
    }

    private static void goBack() {
        SlipperDuke x = made(QUIET);
        due("goBack(0)", x.goBack(0), NOT);
        due("goBack(2)", x.goBack(2), UNKNOWN);
        due("goBack(-1)", x.goBack(-1), UNKNOWN);
        x.hour(3);
        x.seed(77);
        x.keep(1);
        x.drift(20);
        x.teach(9);
        x.chalk(1, 0);
        x.brick(1, true);
        x.hour(3);
        due("goBack(0): another was kept", x.goBack(0), NOT);
        due("told(15)", x.told(15), 5);
        due("goBack(1)", x.goBack(1), 1);
        int[] told = {3, 2, 2, 0, 16, 3, 1, 3, 2, 0, 0, 1, 10, 3, 0, 0};
        for (int what = 0; what < 16; what++) due("told(" + what + ")", x.told(what), told[what]);
        due("went(0)", x.went(0), 1);
        due("room(0, 1)", x.room(0, 1), 2);
        due("room(0, 3)", x.room(0, 3), 6);
        due("petition(1, 0)", x.petition(1, 0), 2);
        due("seed(5)", x.seed(5), 77);
        x.hour(1);
        due("goBack(1) once more", x.goBack(1), 1);
        due("told(5)", x.told(5), 3);
        due("seed(0)", x.seed(0), 77);
    }

    private static void partOne() {
        promise = 1; aNewObject();
        promise = 2; feed();
        promise = 3; palace(); palaceKeepsOrClears();
        promise = 4; fault(); faultBehindALongerText();
        promise = 5; told();
        promise = 6; room();
        promise = 7; petition();
        promise = 8; went();
        promise = 9; hour(); hoursAreFull(); nailsBarTheWay();
        promise = 10; carpet();
        promise = 11; noise();
        promise = 12; nail();
        promise = 13; brick();
        promise = 14; chalk();
        promise = 15; sole();
        promise = 16; teach();
        promise = 17; drift(); driftChanges();
        promise = 18; undo(); undoneWay();
    }

    private static void partTwo() {
        promise = 19; where();
        promise = 20; when(); whenHeIsWorn(); aHundredHours();
        promise = 21; governed();
        promise = 22; ring();
        promise = 23; carpets();
        promise = 24; bricks();
        promise = 25; quietest();
        promise = 26; stand();
        promise = 27; willHear();
        promise = 28; dance();
        promise = 29; fit(); fitWhenWorn();
        promise = 30; tells();
        promise = 31; teachFor();
        promise = 32; otherwise();
        promise = 33; write();
        promise = 34; tear();
        promise = 35; judge();
        promise = 36; seed();
        promise = 37; keep();
        promise = 38; goBack();
    }

    public static void main(String[] args) {
        partOne();
        partTwo();
        System.out.println(wrong == 0 ? "all answers are as due" : wrong + " answers are not as due");
        if (wrong != 0) System.exit(1);
    }
}
