/** Section 3 of the document and promises 19 to 38, sentence by sentence: what is tried, rules, the book, draws, images. */
public final class TriedEdgesTest {
    private static final int NONE = Edges.NONE, UNKNOWN = Edges.UNKNOWN, OUTSIDE = Edges.OUTSIDE, NOT = Edges.NOT;
    private static final int[] NO_ROOM = {Edges.LEAST, -1, 3, 8, 31, 32, Edges.MOST};
    /** He goes where it is quiet alone: 0, 1, 0, 1 and so on. */
    private static final String QUIET = "s16;r1 0;r2 1;r5 0;d0 1;d0 2;p1 10;p2 20;";
    private static final String ONE = "s27;r3 0;p0 9;";
    /**
     * Room 0 has doors to all others, among which he goes by turns. Worn, room 3 pulls by 8: 1 and 2 are governed nine
     * times ahead of it, 4 to 7 eight times; he comes to it behind twice 50 hours and one.
     */
    private static final String STAR = "s25;r0 1;r0 1;r0 1;r1 0;r0 1;r0 1;r0 1;r0 1;d0 1;d0 2;d0 3;d0 4;d0 5;d0 6;d0 7;p3 5;";
    /** He comes back to room 0 behind 101 hours; ring() goes all of them. */
    private static final String LONG_RING =
        "s23;r9 0;r0 0;r0 1;r2 1;r0 1;r1 0;r0 1;r0 1;d1 0;d1 2;d1 3;d1 4;d1 5;d1 6;d1 7;d2 3;";

    private static void due(String call, int got, int want) {
        Edges.due(call, got, want);
    }

    private static SlipperDuke made(String text) {
        return Edges.made(text);
    }

    private static void where() {
        Edges.says("WHERE he is behind n HOURS (0 .. 100). OUTSIDE, NOT: no ROOMS");
        int[] outside = {Edges.LEAST, -1, 101, Edges.MOST};
        for (int n : outside) {
            due("where(" + n + ")", made(QUIET).where(n), OUTSIDE);
            due("where(" + n + ") without rooms", made("s1;").where(n), OUTSIDE);
        }
        SlipperDuke x = made(STAR);
        due("where(0)", x.where(0), 0);
        due("where(1)", x.where(1), 1);
        due("where(99)", x.where(99), 2);
        due("where(100)", x.where(100), 0);
        x.hour(1);
        due("where(99) an hour on", x.where(99), 0);
        due("where(100) an hour on", x.where(100), 3);
        due("where(100) of one room", made(ONE).where(100), 0);
        due("where(0) without rooms", made("s1;").where(0), NOT);
        due("where(100) without a palace", new SlipperDuke().where(100), NOT);
    }

    private static void when() {
        Edges.says("WHEN: behind how many HOURS (0 .. 100) he is in a ROOM first; NONE. UNKNOWN");
        SlipperDuke x = made(STAR);
        due("when(0): he is there", x.when(0), 0);
        due("when(1)", x.when(1), 1);
        due("when(3): it is 101", x.when(3), NONE);
        x.hour(1);
        due("when(1): he is there", x.when(1), 0);
        due("when(3) an hour on", x.when(3), 100);
        x.hour(1);
        due("when(3) two hours on", x.when(3), 99);
        for (int a : NO_ROOM) due("when(" + a + ")", made(QUIET).when(a), UNKNOWN);
        due("when(2): never", made(QUIET).when(2), NONE);
        due("when(0) without rooms", made("s1;").when(0), UNKNOWN);
    }

    private static void governed() {
        Edges.says("GOVERNED: how often a ROOM would be in the next n HOURS (1 .. 100). UNKNOWN, OUTSIDE");
        SlipperDuke x = made(STAR);
        x.hour(2);
        due("governed(3, 99): he comes there behind 99", x.governed(3, 99), 0);
        due("governed(3, 100): and governs in the 100th", x.governed(3, 100), 1);
        due("governed(0, 1)", x.governed(0, 1), 1);
        due("governed(0, 2)", x.governed(0, 2), 1);
        due("governed(0, 100)", x.governed(0, 100), 50);
        int[] outside = {Edges.LEAST, -1, 0, 101, Edges.MOST};
        for (int n : outside) {
            due("governed(0, " + n + ")", x.governed(0, n), OUTSIDE);
            for (int a : NO_ROOM) due("governed(" + a + ", " + n + ")", made(QUIET).governed(a, n), UNKNOWN);
        }
        for (int a : NO_ROOM) due("governed(" + a + ", 1)", made(QUIET).governed(a, 1), UNKNOWN);
        due("governed(0, 100) of one room", made(ONE).governed(0, 100), 100);
    }

    private static void ring() {
        Edges.says("RING: behind how many HOURS (2 .. 100) he first is again in the ROOM where he is now, having been elsewhere; NONE");
        SlipperDuke x = made(LONG_RING);
        due("ring(): it is 101", x.ring(), NONE);
        for (int left = 100; left > 0; left--) due("hour(1)", x.hour(1) == 0 ? 1 : 0, 0);
        due("hour(1), the 101st", x.hour(1), 0);
        due("ring() of two rooms", made(QUIET).ring(), 2);
        due("ring() of one room: he was not elsewhere", made(ONE).ring(), NONE);
        SlipperDuke hundred = made("s21;r4 1;r0 1;r0 0;r1 1;r0 1;r0 1;r0 1;r0 1;d1 0;d1 2;d1 3;d1 4;d1 5;d1 6;d1 7;");
        due("ring()", hundred.ring(), 100);
        due("ring(): he never comes back", made("s16;r9 0;r0 0;r0 0;d0 1;d1 2;").ring(), NONE);
        due("ring() without rooms", made("s1;").ring(), NOT);
        due("ring() without a palace", new SlipperDuke().ring(), NOT);
    }

    private static void carpets() {
        Edges.says("CARPETS: the fewest ROOMS (of like ones the least), behind 0 to n HOURS (0 .. 20); NONE. UNKNOWN, OUTSIDE");
        SlipperDuke x = made("s4;r0 0;r0 0;r0 1;r0 0;d0 1;d0 2;d2 3;d0 3;");
        due("carpets(0, 0): none is needed", x.carpets(0, 0), 0);
        due("carpets(0, 20)", x.carpets(0, 20), 0);
        due("carpets(2, 0): no hour, so by no carpet", x.carpets(2, 0), NONE);
        due("carpets(2, 1)", x.carpets(2, 1), 0);
        due("carpets(1, 1): {1} and {2} are as few", x.carpets(1, 1), 2);
        due("carpets(3, 1): both in 2 and 3", x.carpets(3, 1), 12);
        due("told(8)", x.told(8), 4);
        SlipperDuke y = made("s61;r9 0;r9 1;r1 0;r3 1;d1 3;d1 2;d3 2;d2 0;d3 0;d0 1;");
        due("carpets(1, 20)", y.carpets(1, 20), 8);
        due("carpets(1, 19)", y.carpets(1, 19), NONE);
        int[] outside = {Edges.LEAST, -1, 21, 100, Edges.MOST};
        for (int n : outside) due("carpets(0, " + n + ")", x.carpets(0, n), OUTSIDE);
        for (int a : NO_ROOM) {
            due("carpets(" + a + ", 0)", made(QUIET).carpets(a, 0), UNKNOWN);
            due("carpets(" + a + ", 21)", made(QUIET).carpets(a, 21), UNKNOWN);
        }
        due("carpets(0, 0) without rooms", made("s1;").carpets(0, 0), UNKNOWN);
    }

    private static void carpetsOfTheLastRoom() {
        Edges.says("CARPETS: a SET: bit k for k");
        SlipperDuke x = made("s4;r0 0;r0 0;r0 0;r0 0;r0 0;r0 0;r0 0;r0 0;d0 1;d0 7;");
        due("carpets(7, 1): laid in 7", x.carpets(7, 1), 128);
        x.carpet(1, true);
        due("carpets(7, 1): taken up in 1, laid in 7", x.carpets(7, 1), 130);
        x.brick(0, true);
        due("carpets(7, 1): there alone leads a door", x.carpets(7, 1), 0);
    }

    private static void bricks() {
        Edges.says("BRICKS: the fewest DOORS, besides those that are, so that no way leads to a ROOM (NAILS as now); NONE: he is there. UNKNOWN");
        SlipperDuke x = made("s0;r0 0;r0 0;r0 0;r0 0;d0 1;d1 2;d2 3;d3 0;d0 2;");
        due("bricks(0): he is there", x.bricks(0), NONE);
        due("bricks(2): three ways", x.bricks(2), 21);
        due("bricks(1)", x.bricks(1), 3);
        x.brick(4, true);
        due("bricks(2): besides the one that is", x.bricks(2), 5);
        x.nail(3, true);
        due("bricks(2): one way alone", x.bricks(2), 1);
        due("bricks(3): a nail lies there", x.bricks(3), 0);
        x.brick(1, true);
        due("bricks(2): barred", x.bricks(2), 0);
        x.hour(1);
        due("bricks(1): he is there now", x.bricks(1), NONE);
        due("bricks(0)", x.bricks(0), 1);
        x.nail(1, true);
        x.nail(0, true);
        due("bricks(1): he is there, nail or not", x.bricks(1), NONE);
        due("bricks(0): a nail lies there", x.bricks(0), 0);
        for (int a : NO_ROOM) due("bricks(" + a + ")", made(QUIET).bricks(a), UNKNOWN);
        due("bricks(1) without a door", made("s0;r0 0;r0 0;").bricks(1), 0);
        due("bricks(0) of one room", made(ONE).bricks(0), NONE);
        due("bricks(0) without rooms", made("s1;").bricks(0), UNKNOWN);
    }

    private static void bricksLeastSet() {
        Edges.says("BRICKS: a SET of DOORS; of like ones the least");
        SlipperDuke x = made("s0;r0 0;r0 0;r0 0;d1 2;d0 1;");
        due("bricks(2): {0} and {1} bar it", x.bricks(2), 1);
        SlipperDuke y = made("s0;r0 0;r0 0;r0 0;d0 1;d1 2;");
        due("bricks(2): {0} and {1} bar it", y.bricks(2), 1);
        String rooms = "s0;r0 0;r0 0;r0 0;r0 0;r0 0;r0 0;r0 0;r0 0;";
        SlipperDuke last = made(rooms + "d1 2;d1 3;d1 4;d1 5;d1 6;d2 3;d2 4;d2 5;d2 6;d3 4;d3 5;d0 7;");
        due("bricks(7): the twelfth door", last.bricks(7), 2048);
        due("bricks(6): no way leads there", last.bricks(6), 0);
    }

    private static void quietest() {
        Edges.says("QUIETEST: the least sum of NOISE of ROOMS that one enters on a way, through DOORS not BRICKED, ROOMS without a NAIL; NONE. UNKNOWN");
        SlipperDuke x = made("s0;r7 0;r9 0;r0 0;r1 0;d0 1;d1 2;d2 3;d3 0;");
        due("quietest(0): none is entered", x.quietest(0), 0);
        due("quietest(1): by 3 and 2, or straight", x.quietest(1), 9);
        due("quietest(2)", x.quietest(2), 1);
        x.noise(1, 0);
        due("quietest(2): by 1", x.quietest(2), 0);
        x.brick(0, true);
        due("quietest(1): by 3 and 2", x.quietest(1), 1);
        x.hour(1);
        due("quietest(0) from 3", x.quietest(0), 7);
        due("quietest(3): he is there", x.quietest(3), 0);
        x.nail(3, true);
        due("quietest(3): he is there, nail or not", x.quietest(3), 0);
        due("quietest(0): and goes from there", x.quietest(0), 7);
        x.nail(0, true);
        due("quietest(0): a nail lies there", x.quietest(0), NONE);
        x.nail(2, true);
        due("quietest(1): a nail lies between", x.quietest(1), NONE);
        for (int a : NO_ROOM) due("quietest(" + a + ")", made(QUIET).quietest(a), UNKNOWN);
        SlipperDuke all = made("s0;r9 0;r9 0;r9 0;r9 0;r9 0;r9 0;r9 0;r9 0;d7 6;d6 5;d5 4;d4 3;d3 2;d2 1;d1 0;");
        due("quietest(7): through all rooms", all.quietest(7), 63);
        due("quietest(0) of one room", made(ONE).quietest(0), 0);
        due("quietest(0) without rooms", made("s1;").quietest(0), UNKNOWN);
    }

    private static void stand() {
        Edges.says("STAND: of all ROOMS but that where he is the one in which he GOVERNS first in the next 100 HOURS; NONE. NOT: no ROOMS");
        SlipperDuke x = made(QUIET);
        due("stand()", x.stand(), 1);
        x.hour(1);
        due("stand() from 1", x.stand(), 0);
        x.nail(0, true);
        due("stand(): he stays", x.stand(), NONE);
        due("stand() of one room", made(ONE).stand(), NONE);
        due("stand() without rooms", made("s1;").stand(), NOT);
        due("stand() without a palace", new SlipperDuke().stand(), NOT);
    }

    private static void willHear() {
        Edges.says("What all PETITIONS that would be HEARD in the next n HOURS (1 .. 100) are worth. OUTSIDE, NOT: no ROOMS");
        SlipperDuke x = made(STAR);
        x.hour(1);
        due("willHear(100): he comes there behind 100", x.willHear(100), 0);
        x.hour(1);
        due("willHear(99)", x.willHear(99), 0);
        due("willHear(100): he governs there in the 100th", x.willHear(100), 5);
        SlipperDuke y = made("s16;r9 0;r0 0;r0 0;d0 1;d1 2;p0 90;p1 7;p2 3;p2 2;");
        due("willHear(1)", y.willHear(1), 90);
        due("willHear(3): all in a room", y.willHear(3), 102);
        y.hour(1);
        due("willHear(100): what is heard is not again", y.willHear(100), 12);
        y.chalk(0, 0);
        due("willHear(100): nor where he does not come", y.willHear(100), 12);
        y.chalk(0, 2);
        due("willHear(1)", y.willHear(1), 7);
        due("willHear(2)", y.willHear(2), 102);
        int[] outside = {Edges.LEAST, -1, 0, 101, Edges.MOST};
        for (int n : outside) {
            due("willHear(" + n + ")", y.willHear(n), OUTSIDE);
            due("willHear(" + n + ") without rooms", made("s1;").willHear(n), OUTSIDE);
        }
        due("willHear(1) of nothing chalked", made("s0;r0 0;").willHear(1), 0);
        due("willHear(1) without rooms", made("s1;").willHear(1), NOT);
        due("willHear(100) without a palace", new SlipperDuke().willHear(100), NOT);
    }

    private static void dance() {
        Edges.says("DANCE: odds of none in n HOURS (0 .. 60), each by q of a hundred (0 .. 100): a BILLION times (100 less q) / 100 each (cut). OUTSIDE");
        SlipperDuke x = new SlipperDuke();
        due("dance(0, 0)", x.dance(0, 0), 1000000000);
        due("dance(0, 100): no hour", x.dance(0, 100), 1000000000);
        due("dance(60, 0)", x.dance(60, 0), 1000000000);
        due("dance(1, 100)", x.dance(1, 100), 0);
        due("dance(60, 100)", x.dance(60, 100), 0);
        due("dance(4, 99)", x.dance(4, 99), 10);
        due("dance(5, 99): 10 / 100 is cut", x.dance(5, 99), 0);
        due("dance(6, 1)", x.dance(6, 1), 941480148);
        due("dance(7, 1): cut each time", x.dance(7, 1), 932065346);
        int[] hours = {Edges.LEAST, -1, 61, Edges.MOST};
        for (int n : hours) due("dance(" + n + ", 0)", x.dance(n, 0), OUTSIDE);
        int[] odds = {Edges.LEAST, -1, 101, Edges.MOST};
        for (int q : odds) due("dance(0, " + q + ")", x.dance(0, q), OUTSIDE);
    }

    private static void fit() {
        Edges.says("FIT: i = NONE how many, else the i-th (rising); NONE");
        SlipperDuke x = made("s16;r0 0;r1 0;r0 0;d0 1;d0 2;");
        due("fit(-1) of no hour", x.fit(NONE), 64);
        for (int i = 0; i < 64; i++) due("fit(" + i + ") of no hour", x.fit(i), i);
        due("fit(64)", x.fit(64), NONE);
        x.hour(1);
        due("fit(-1): q above 0", x.fit(NONE), 48);
        for (int i = 0; i < 48; i++) due("fit(" + i + ")", x.fit(i), 16 + i);
        int[] others = {48, 63, 64, Edges.MOST, -2, Edges.LEAST};
        for (int i : others) due("fit(" + i + ")", x.fit(i), NONE);
        due("fit(-1) without a palace", new SlipperDuke().fit(NONE), 64);
        due("fit(64) without a palace", new SlipperDuke().fit(64), NONE);
    }

    /** 0 to 2 wants q above 0; then, with much noise in 1 and 2 governed once, 0 to 1 wants q 0; all else fits every rule. */
    private static void fitForgets() {
        Edges.says("THE WAY keeps the latest 16 HOURS in which he went; by each of which he would have gone so in all of these");
        SlipperDuke x = made("s16;r0 0;r1 0;r0 0;d0 1;d0 2;");
        x.hour(2);
        due("fit(-1) by two hours", x.fit(NONE), 48);
        x.noise(1, 9);
        x.teach(0);
        due("hour(1)", x.hour(1), 1);
        due("fit(-1): none goes both ways", x.fit(NONE), 0);
        due("fit(0) of none", x.fit(0), NONE);
        due("tells() of none", x.tells(), NONE);
        x.brick(1, true);
        x.hour(13);
        due("told(13)", x.told(13), 16);
        due("fit(-1) by all 16", x.fit(NONE), 0);
        x.hour(1);
        due("fit(-1): the first is lost", x.fit(NONE), 16);
        due("fit(15)", x.fit(15), 15);
        x.hour(1);
        due("fit(-1): the second fitted all", x.fit(NONE), 16);
        x.hour(1);
        due("fit(-1): the third is lost", x.fit(NONE), 64);
    }

    /** From 1 he went to 0 with a carpet and governed once, not to 2 with none: n is not above 3 s. */
    private static void fitByCarpets() {
        Edges.says("all by which PULLS go as it was then");
        SlipperDuke x = made("s4;r0 1;r0 0;r0 0;d0 1;d1 2;");
        due("hour(2)", x.hour(2), 0);
        due("fit(-1)", x.fit(NONE), 52);
        due("fit(1): 1 to 3 have s 0", x.fit(1), 4);
        x.carpet(0, false);
        x.carpet(2, true);
        x.noise(0, 9);
        due("fit(-1) is by what was then", x.fit(NONE), 52);
        x.keep(0);
        x.hour(40);
        x.goBack(0);
        due("fit(-1) of an image", x.fit(NONE), 52);
    }

    private static void tells() {
        Edges.says("TELLS: the greatest part that is alike is least; of like ones the least; NONE: none parts them");
        due("tells(): laid in 2 or in 3, by s above 0", made("s0;r0 0;r0 0;r0 0;r0 0;d0 1;d0 2;d0 3;").tells(), 2);
        // Laid in 2: 48 go there. Laid in 3: those go there whose q is below 3 s, 44.
        due("tells(): 3 parts better", made("s0;r0 0;r0 0;r0 0;r1 0;d0 1;d0 2;d0 3;").tells(), 3);
        SlipperDuke up = made("s0;r0 0;r0 1;r0 1;d0 1;d0 2;");
        due("tells(): taken up in 1", up.tells(), 1);
        due("told(8)", up.told(8), 6);
        up.carpet(1, false);
        due("tells(): as it is they are parted, whatever is done in 0", up.tells(), 0);
        due("tells() of one way", made("s0;r0 0;r0 0;d0 1;").tells(), NONE);
        due("tells() where all stay", made("s0;r0 0;r9 0;r0 1;").tells(), NONE);
        due("tells() of one room", made(ONE).tells(), NONE);
        due("tells() without rooms", made("s1;").tells(), NONE);
        due("tells() without a palace", new SlipperDuke().tells(), NONE);
    }

    private static void teachFor() {
        Edges.says("TEACH: ROOMS as figures, each 1 more than the ROOM, 8 at most; 0: no HOUR. OUTSIDE (below 0, nine figures or more, a figure of no ROOM), NOT: no ROOMS");
        SlipperDuke x = made(QUIET);
        due("teachFor(0): the rule taught", x.teachFor(0), 16);
        due("teachFor(21212121): eight figures", x.teachFor(21212121), 16);
        due("teachFor(212121212): nine", x.teachFor(212121212), OUTSIDE);
        due("teachFor(21212123): from 1 no door leads to 2", x.teachFor(21212123), NONE);
        int[] outside = {Edges.LEAST, -1, -2, 4, 24, 42, 10, 20, 201, 2012, 100000000, 111111111, 1212121212, Edges.MOST};
        for (int way : outside) due("teachFor(" + way + ")", x.teachFor(way), OUTSIDE);
        due("teachFor(1): he cannot stay", x.teachFor(1), NONE);
        due("told(4)", x.told(4), 16);
        SlipperDuke eight = made("s9;r0 0;r0 0;r0 0;r0 0;r0 0;r0 0;r0 0;r0 0;d0 7;");
        due("teachFor(8)", eight.teachFor(8), 9);
        due("teachFor(81818181)", eight.teachFor(81818181), 9);
        due("teachFor(9): no ninth room", eight.teachFor(9), OUTSIDE);
        due("teachFor(99999999)", eight.teachFor(99999999), OUTSIDE);
        due("teachFor(11111111): he stays", made(ONE).teachFor(11111111), 27);
        due("teachFor(2) of one room", made(ONE).teachFor(2), OUTSIDE);
        due("teachFor(0) without rooms", made("s1;").teachFor(0), NOT);
        due("teachFor(1) without rooms", made("s1;").teachFor(1), OUTSIDE);
        due("teachFor(-1) without a palace", new SlipperDuke().teachFor(-1), OUTSIDE);
        due("teachFor(0) without a palace", new SlipperDuke().teachFor(0), NOT);
    }

    /** 1 has a carpet and noise 3, 2 has neither: 2 is gone to, if 3 s is less than 3 q. */
    private static void teachForNearest() {
        Edges.says("TEACH: nearest to the RULE taught (q, s, n by how much each differs, together); of like ones the least; NONE");
        SlipperDuke x = made("s20;r0 0;r3 1;r0 0;d0 1;d0 2;");
        due("teachFor(2): it goes so itself", x.teachFor(2), 20);
        due("teachFor(3): 16 and 36 are as near", x.teachFor(3), 16);
        x.teach(63);
        due("teachFor(3): q 3, s 2, n 3", x.teachFor(3), 59);
        x.teach(0);
        due("teachFor(3): q 1, s 0, n 0", x.teachFor(3), 16);
        x.teach(15);
        due("teachFor(3): q and s apart by 4 together, s 0 to 2 alike", x.teachFor(3), 19);
    }

    private static void otherwise() {
        Edges.says("OTHERWISE: behind how many HOURS (1 .. 100) a pair taught RULE R first is elsewhere than he; NONE. UNKNOWN, NOT: no ROOMS");
        SlipperDuke x = made(STAR);
        due("otherwise(25): the same rule", x.otherwise(25), NONE);
        due("otherwise(29): it is 101", x.otherwise(29), NONE);
        x.hour(1);
        due("otherwise(29) an hour on", x.otherwise(29), 100);
        x.hour(1);
        due("otherwise(29) two hours on", x.otherwise(29), 99);
        SlipperDuke y = made("s16;r0 0;r1 0;r0 0;d0 1;d0 2;");
        due("otherwise(0): 1 against 2", y.otherwise(0), 1);
        due("otherwise(63) of one room", made(ONE).otherwise(63), NONE);
        int[] unknown = {Edges.LEAST, -1, 64, Edges.MOST};
        for (int r : unknown) {
            due("otherwise(" + r + ")", x.otherwise(r), UNKNOWN);
            due("otherwise(" + r + ") without rooms", made("s1;").otherwise(r), UNKNOWN);
        }
        due("otherwise(63) without rooms", made("s1;").otherwise(63), NOT);
        due("otherwise(0) without a palace", new SlipperDuke().otherwise(0), NOT);
    }

    private static void book() {
        Edges.says("An entry behind THE BOOK (0 .. 9999): how many. UNKNOWN, OUTSIDE, FULL (15). THE BOOK is empty: how much it had");
        SlipperDuke x = made(QUIET);
        due("tear() of none", x.tear(), 0);
        int[] outside = {Edges.LEAST, -1, 10000, Edges.MOST};
        for (int often : outside) {
            due("write(2, " + often + ")", x.write(2, often), OUTSIDE);
            for (int a : NO_ROOM) due("write(" + a + ", " + often + ")", x.write(a, often), UNKNOWN);
        }
        for (int a : NO_ROOM) due("write(" + a + ", 0)", x.write(a, 0), UNKNOWN);
        due("told(14)", x.told(14), 0);
        due("write(2, 0)", x.write(2, 0), 1);
        due("write(2, 9999)", x.write(2, 9999), 2);
        for (int count = 3; count <= 15; count++) due("write(0, 0)", x.write(0, 0), count);
        due("write(0, 0), the 16th", x.write(0, 0), Edges.FULL);
        due("write(0, 10000), the 16th", x.write(0, 10000), OUTSIDE);
        due("write(3, 0), the 16th", x.write(3, 0), UNKNOWN);
        due("told(14)", x.told(14), 15);
        due("tear()", x.tear(), 15);
        due("told(14)", x.told(14), 0);
        due("write(0, 0) anew", x.write(0, 0), 1);
        due("tear() without a palace", new SlipperDuke().tear(), 0);
        due("write(0, 0) without rooms", made("s1;").write(0, 0), UNKNOWN);
    }

    private static void judge() {
        Edges.says("WRONG: the first that is otherwise now; NONE");
        SlipperDuke x = made(QUIET);
        due("judge() of no entry", x.judge(), NONE);
        for (int i = 0; i < 14; i++) x.write(2, 0);
        x.write(0, 1);
        due("judge(): the last of 15", x.judge(), 14);
        x.hour(1);
        due("judge(): none", x.judge(), NONE);
        x.hour(1);
        due("judge(): 0 is so still", x.judge(), NONE);
        x.hour(1);
        due("judge()", x.judge(), 14);
        x.tear();
        due("judge() of an empty book", x.judge(), NONE);
        x.write(0, 2);
        x.write(0, 3);
        x.write(0, 4);
        due("judge(): the first of two", x.judge(), 1);
        due("judge() without a palace", new SlipperDuke().judge(), NONE);
    }

    private static void seed() {
        Edges.says("THE SEED becomes v (0 .. 2147483647): what it was. OUTSIDE; 0 at first");
        SlipperDuke x = new SlipperDuke();
        due("seed(-1)", x.seed(-1), OUTSIDE);
        due("seed(LEAST)", x.seed(Edges.LEAST), OUTSIDE);
        due("seed(2147483647)", x.seed(2147483647), 0);
        due("seed(-1)", x.seed(-1), OUTSIDE);
        due("seed(0)", x.seed(0), 2147483647);
        due("seed(2147483646)", x.seed(2147483646), 0);
        due("seed(1)", x.seed(1), 2147483646);
    }

    /** One hour by draws from a seed: the set of carpets (0), of nails (1), the noise of room 1 (2), the seed (3). */
    private static void drawn(int seed, int... due) {
        SlipperDuke x = made("s0;r4 0;r4 1;r4 0;d0 1;d0 2;");
        x.nail(1, true);
        x.seed(seed);
        x.drift(1);
        due("told(8) from " + seed, x.told(8), due[0]);
        due("told(9) from " + seed, x.told(9), due[1]);
        due("room(1, 0) from " + seed, x.room(1, 0), due[2]);
        due("room(0, 0) from " + seed, x.room(0, 0), 4);
        due("room(2, 0) from " + seed, x.room(2, 0), 4);
        due("seed(0) from " + seed, x.seed(0), due[3]);
    }

    private static void draws() {
        Edges.says("on 0 a CARPET is laid there, on 1 taken up, on 2 NOISE is a DRAW of 10, on 3 a NAIL lies there, on 4 none");
        drawn(6, 6, 2, 4, 1672197364);
        drawn(7, 0, 2, 4, 642666333);
        drawn(5, 2, 2, 6, 695785320);
        drawn(56, 2, 2, 9, 1116041079);
        SlipperDuke loud = made(QUIET);
        loud.seed(3);
        loud.drift(1);
        due("room(2, 0) from 3", loud.room(2, 0), 5);
        due("told(9) from 3: no nail by it", loud.told(9), 0);
        loud.seed(14);
        loud.drift(1);
        due("room(0, 0) from 14", loud.room(0, 0), 8);
        due("told(9) from 14", loud.told(9), 0);
        drawn(1, 2, 6, 4, 377401575);
        drawn(8, 2, 0, 4, 1760618950);
        Edges.says("it becomes it times 1103515245 and 12345, left over by 2 to the 31");
        // 2 to the 31 less 1103515245 and 12345 is 1043980748; 15929 by 3 is 2; 4409 by 5 is 4.
        drawn(2147483647, 2, 2, 4, 288979989);
        drawn(0, 2, 3, 4, 1406932606);
        SlipperDuke one = made(ONE);
        one.drift(1);
        due("told(9): a draw of one room, too", one.told(9), 1);
        due("seed(0)", one.seed(0), 1406932606);
    }

    private static void images() {
        Edges.says("IMAGES 0, 1 keep these, THE SEED; nothing can be undone then. UNKNOWN, NOT: it was not kept");
        int[] unknown = {Edges.LEAST, -1, 2, Edges.MOST};
        SlipperDuke x = made(QUIET);
        x.sole();
        for (int i : unknown) {
            due("keep(" + i + ")", x.keep(i), UNKNOWN);
            due("goBack(" + i + ")", x.goBack(i), UNKNOWN);
        }
        due("goBack(0)", x.goBack(0), NOT);
        due("goBack(1)", x.goBack(1), NOT);
        due("told(15)", x.told(15), 1);
        x.seed(11);
        due("keep(1)", x.keep(1), 1);
        due("told(15)", x.told(15), 0);
        due("undo()", x.undo(), NOT);
        due("goBack(0): the other was kept", x.goBack(0), NOT);
        x.hour(3);
        x.seed(22);
        due("keep(0)", x.keep(0), 1);
        x.sole();
        due("goBack(1)", x.goBack(1), 1);
        due("told(15)", x.told(15), 0);
        due("undo()", x.undo(), NOT);
        due("told(5)", x.told(5), 0);
        due("seed(33)", x.seed(33), 11);
        due("goBack(0)", x.goBack(0), 1);
        due("told(5)", x.told(5), 3);
        due("seed(33)", x.seed(33), 22);
        due("keep(1) anew", x.keep(1), 1);
        x.hour(1);
        due("goBack(1)", x.goBack(1), 1);
        due("told(5)", x.told(5), 3);
        due("seed(0)", x.seed(0), 33);
    }

    private static void imagesOfNothing() {
        Edges.says("IMAGE i becomes what is so: 1");
        SlipperDuke none = new SlipperDuke();
        none.seed(8);
        due("keep(0) without a palace", none.keep(0), 1);
        none.seed(9);
        due("goBack(0) without a palace", none.goBack(0), 1);
        due("seed(0)", none.seed(0), 8);
        due("told(4)", none.told(4), NONE);
        SlipperDuke x = made("s5;");
        due("keep(1) without rooms", x.keep(1), 1);
        x.teach(6);
        due("goBack(1) without rooms", x.goBack(1), 1);
        due("told(4)", x.told(4), 5);
        Edges.fed(x, "s5;;");
        x.palace();
        due("goBack(1): a fault leaves images", x.goBack(1), 1);
        x.palace();
        due("goBack(1): a new palace does not", x.goBack(1), NOT);
    }

    private static void bookIsItsOwn() {
        Edges.says("all of section 2, THE WAY are as ahead of it; IMAGES keep these, THE SEED (THE BOOK is none of these)");
        SlipperDuke x = made(QUIET);
        x.write(0, 0);
        x.keep(0);
        x.hour(1);
        x.write(0, 1);
        due("undo()", x.undo(), 0);
        due("told(14)", x.told(14), 2);
        due("judge()", x.judge(), 1);
        x.goBack(0);
        due("told(14)", x.told(14), 2);
        x.sole();
        x.tear();
        x.undo();
        due("told(14)", x.told(14), 0);
    }

    private static void tried() {
        where();
        when();
        governed();
        ring();
        carpets();
        carpetsOfTheLastRoom();
        bricks();
        bricksLeastSet();
        quietest();
        stand();
        willHear();
        dance();
    }

    public static void main(String[] args) {
        tried();
        fit();
        fitForgets();
        fitByCarpets();
        tells();
        teachFor();
        teachForNearest();
        otherwise();
        book();
        judge();
        seed();
        draws();
        images();
        imagesOfNothing();
        bookIsItsOwn();
        Edges.end();
    }
}
