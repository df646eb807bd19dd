/** Section 1 of the document and promises 2 to 4, sentence by sentence: how a text is read, and where its first fault is. */
public final class TextEdgesTest {
    private static final int NONE = Edges.NONE;
    private static final String EIGHT = "s0;r0 0;r0 0;r0 0;r0 0;r0 0;r0 0;r0 0;r0 0;";
    private static final String TWELVE = EIGHT + "d0 1;d0 2;d0 3;d0 4;d0 5;d0 6;d0 7;d1 2;d1 3;d1 4;d1 5;d1 6;";
    private static final String SIX = "p0 0;p1 0;p2 0;p3 0;p4 0;p5 0;";
    private static final String TWO = "s0;r0 0;r0 0;";

    private static void due(String call, int got, int want) {
        Edges.due(call, got, want);
    }

    private static void read(String text, int answer, int letter) {
        Edges.read(text, answer, letter);
    }

    private static void letters() {
        Edges.says("One letter (a number 0 .. 255) comes behind THE TEXT: how many it has. OUTSIDE");
        SlipperDuke x = new SlipperDuke();
        int[] outside = {-1, 256, Edges.LEAST, Edges.MOST, 256 + 's', 's' - 256};
        for (int letter : outside) due("feed(" + letter + ")", x.feed(letter), Edges.OUTSIDE);
        due("told(3)", x.told(3), 0);
        for (int letter = 0; letter < 240; letter++) due("feed(" + letter + ")", x.feed(letter), letter + 1);
        SlipperDuke y = new SlipperDuke();
        for (int letter = 240; letter <= 255; letter++) due("feed(" + letter + ")", y.feed(letter), letter - 239);
        due("told(3)", y.told(3), 16);
    }

    private static void textIsFull() {
        Edges.says("told in a text (240 letters at most); FULL (240)");
        String full = TWELVE + SIX.substring(0, 25) + "p5 99";
        while (full.length() < 239) full += " ";
        SlipperDuke x = Edges.fed(new SlipperDuke(), full);
        due("feed(';') as the 240th", x.feed(';'), 240);
        due("feed('x') as the 241st", x.feed('x'), Edges.FULL);
        due("feed(0) as the 241st", x.feed(0), Edges.FULL);
        due("told(3)", x.told(3), 240);
        due("palace() of all 240 letters", x.palace(), 8);
        due("fault()", x.fault(), NONE);
        due("petition(5, 1)", x.petition(5, 1), 99);
        due("feed('s') to an empty text", x.feed('s'), 1);
        SlipperDuke y = Edges.fed(new SlipperDuke(), full + " ;");
        due("told(3)", y.told(3), 240);
        due("palace() of a text whose end was refused", y.palace(), -11);
        due("fault() at the text's length", y.fault(), 240);
    }

    private static void rule() {
        Edges.says("'s' R ';' (RULE R, 0 .. 63, is taught; first, once)");
        int[] rules = {0, 1, 9, 10, 62, 63};
        for (int r : rules) due("told(4) of s" + r, Edges.made("s" + r + ";").told(4), r);
        int[] others = {64, 65, 99, 100, 999};
        for (int r : others) read("s" + r + ";", -12, 1);
        read("r0 0;s0;", -11, 0);
        read("s0;s0;", -13, 3);
        read("s0;r0 0;s0;", -13, 8);
    }

    private static void rooms() {
        Edges.says("'r' N C ';' (8 ROOMS at most: NOISE N, 0 .. 9; C 1 a CARPET lies there, 0 not)");
        read(EIGHT, 8, NONE);
        read(EIGHT + "r0 0;", -13, 43);
        SlipperDuke x = Edges.made("s0;r9 1;r0 0;r8 1;");
        due("room(0, 0)", x.room(0, 0), 9);
        due("room(1, 0)", x.room(1, 0), 0);
        due("room(2, 0)", x.room(2, 0), 8);
        due("told(8)", x.told(8), 5);
        read("s0;r10 0;", -12, 4);
        read("s0;r999 0;", -12, 4);
        read("s0;r0 2;", -12, 6);
        read("s0;r0 10;", -12, 6);
    }

    private static void doors() {
        Edges.says("'d' A B ';' (12 DOORS at most between unlike ROOMS told ahead, no two between the same)");
        read(TWELVE, 8, NONE);
        due("told(1)", Edges.made(TWELVE).told(1), 12);
        read(TWELVE + "d2 3;", -13, 103);
        read(TWO + "d0 0;", -14, 16);
        read(TWO + "d1 1;", -14, 16);
        read(TWO + "d0 2;r0 0;", -12, 16);
        read(TWO + "d2 0;r0 0;", -12, 14);
        read("s0;d0 1;", -12, 4);
        read(TWO + "d0 1;d0 1;", -14, 21);
        read(TWO + "d0 1;d1 0;", -14, 21);
        read(TWO + "d1 0;d0 1;", -14, 21);
        read(TWO + "r0 0;d0 1;d0 2;d1 2;", 3, NONE);
    }

    private static void petitions() {
        Edges.says("'p' A W ';' (6 PETITIONS at most: chalked in ROOM A told ahead, worth W, 0 .. 99)");
        due("told(2)", Edges.made(EIGHT + SIX).told(2), 6);
        read(EIGHT + SIX + "p0 0;", -13, 73);
        SlipperDuke x = Edges.made(TWO + "p1 99;p0 0;p1 99;");
        due("petition(0, 0)", x.petition(0, 0), 1);
        due("petition(0, 1)", x.petition(0, 1), 99);
        due("petition(1, 1)", x.petition(1, 1), 0);
        due("petition(2, 0): as the first", x.petition(2, 0), 1);
        read(TWO + "p0 100;", -12, 16);
        read(TWO + "p2 0;", -12, 14);
        read(TWO + "p2 0;r0 0;", -12, 14);
        read("s0;p0 0;", -12, 4);
    }

    private static void figures() {
        Edges.says("NUMBERS have one to three figures; 2 a NUMBER of four figures or more");
        read("s1;", 0, NONE);
        read("s01;", 0, NONE);
        read("s001;", 0, NONE);
        read("s0001;", -12, 1);
        read("s0000;", -12, 1);
        read("s 00000000000000000000000000000001;", -12, 2);
        read("s4294967297;", -12, 1);
        read("s18446744073709551617;", -12, 1);
        read("s0;r000 001;", 1, NONE);
        read("s0;r0 0001;", -12, 6);
        read(TWO + "d000 001;p001 099;", 2, NONE);
        read(TWO + "d0000 1;", -12, 14);
        read(TWO + "p0 0099;", -12, 16);
    }

    private static void words() {
        Edges.says("a word is one letter; 1 it cannot stand there (a letter that is no word, another word first than 's')");
        read("ss1;", -11, 1);
        read("s1;rr0 0;", -11, 4);
        read(TWO + "dd0 1;", -11, 14);
        read(TWO + "pp0 1;", -11, 14);
        read("rs1;", -11, 0);
        read("d0 1;", -11, 0);
        read("p0 1;", -11, 0);
        String other = "SRDPtqe;0179:/,-+'\"[]\t\n\r";
        for (char c : other.toCharArray()) {
            read(c + "1;", -11, 0);
            read("s1;" + c + "1;", -11, 3);
        }
        int[] high = {0, 1, 31, 33, 127, 128, 160, 255};
        for (int c : high) {
            read("s1;" + (char) c, -11, 3);
            read("s1" + (char) c + ";", -11, 2);
        }
    }

    private static void blanks() {
        Edges.says("blanks (32) may stand anywhere but within NUMBERS; two NUMBERS side by side need one");
        read("  s  63  ;  r  9  1  ;  r 0   0 ; d  0   1  ;  p  1   9  ;  ", 2, NONE);
        read("s6 3;", -11, 3);
        read("s0;r0 0 0;", -11, 8);
        read("s0;r00;", -11, 6);
        read("s0;r01;", -11, 6);
        read("s0;r10;", -12, 4);
        read(TWO + "d01;", -11, 16);
        read(TWO + "p199;", -12, 14);
        read("s\t5;", -11, 1);
        read("s5\n;", -11, 2);
    }

    private static void firstAndLeast() {
        Edges.says("FAULTS, at the first letter that has one, of these the least");
        read("s64;x", -12, 1);
        read("s64x", -12, 1);
        read("s1;x;s64;", -11, 3);
        read("s1x;s64;", -11, 2);
        read("s1;s64x", -13, 3);
        // Like A and of four figures, both at the B.
        read(TWO + "d0 0000;", -12, 16);
        // The word comes again where none can stand.
        read("ss1;", -11, 1);
        read("s1s2;", -11, 2);
        // What would be a fault alone is none, as the letter ahead has one.
        read(TWO + "d2 2;", -12, 14);
        read(EIGHT + "r10 2", -13, 43);
        read(TWELVE + "d9 9", -13, 103);
        read(EIGHT + SIX + "p9 100", -13, 73);
    }

    private static void end() {
        Edges.says("(the end at the text's length)");
        String whole = "s1;r0 0;r0 0;d0 1;p0 9;";
        for (int length = 1; length < whole.length(); length++) {
            String text = whole.substring(0, length);
            boolean isWhole = text.endsWith(";");
            read(text, isWhole ? Math.min(2, length / 5) : -11, isWhole ? NONE : length);
            read(text + "  ", isWhole ? Math.min(2, length / 5) : -11, isWhole ? NONE : length + 2);
        }
    }

    private static void noPalace() {
        Edges.says("An empty text (or one of blanks alone): no PALACE");
        String blanks = "";
        for (int length = 0; length <= 240; length += 80) {
            SlipperDuke x = Edges.made("s5;r0 0;p0 1;");
            x.sole();
            Edges.fed(x, blanks);
            due("palace() of " + length + " blanks", x.palace(), 0);
            due("fault()", x.fault(), NONE);
            int[] told = {0, 0, 0, 0, NONE, 0, NONE, 0, 0, 0, 0, 0, 0, 0, 0, 0};
            for (int what = 0; what < told.length; what++) due("told(" + what + ")", x.told(what), told[what]);
            due("teach(5)", x.teach(5), Edges.NOT);
            for (int k = 0; k < 80; k++) blanks += " ";
        }
        due("told(4): a rule alone is a palace", Edges.made("s5;").told(4), 5);
    }

    private static void faultOfTheLatest() {
        Edges.says("The letter of the FAULT of the latest palace(); NONE");
        SlipperDuke x = new SlipperDuke();
        due("fault() ahead of all", x.fault(), NONE);
        Edges.fed(x, "s1;;");
        due("fault() ahead of palace()", x.fault(), NONE);
        due("palace()", x.palace(), -11);
        due("fault()", x.fault(), 3);
        Edges.fed(x, "s99;");
        due("fault() of the latest, not of the letters since", x.fault(), 3);
        due("palace()", x.palace(), -12);
        due("fault()", x.fault(), 1);
        due("palace() of nothing", x.palace(), 0);
        due("fault()", x.fault(), NONE);
        Edges.fed(x, "x");
        due("palace()", x.palace(), -11);
        due("fault()", x.fault(), 0);
        Edges.fed(x, "s1;");
        due("palace()", x.palace(), 0);
        due("fault()", x.fault(), NONE);
    }

    private static void emptyThen() {
        Edges.says("THE TEXT (it is empty then, with a FAULT, too) becomes THE PALACE; all else is as it was");
        SlipperDuke x = Edges.made("s5;r3 1;r0 0;d0 1;p0 7;");
        x.hour(3);
        Edges.fed(x, "s6;r9 0;r9 0;r9 0;d0 1;d1 2;p2 1;p2 1;p2");
        due("palace()", x.palace(), -11);
        int[] told = {2, 1, 1, 0, 5, 3, 1, 3, 1, 0, 0, 1, 7, 3, 0, 1};
        for (int what = 0; what < told.length; what++) due("told(" + what + ")", x.told(what), told[what]);
        due("room(0, 0)", x.room(0, 0), 3);
        due("room(0, 3)", x.room(0, 3), 2);
        due("petition(0, 1)", x.petition(0, 1), 7);
        due("feed('s')", x.feed('s'), 1);
    }

    public static void main(String[] args) {
        letters();
        textIsFull();
        rule();
        rooms();
        doors();
        petitions();
        figures();
        words();
        blanks();
        firstAndLeast();
        end();
        noPalace();
        faultOfTheLatest();
        emptyThen();
        Edges.end();
    }
}
