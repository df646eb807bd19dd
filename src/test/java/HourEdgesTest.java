/** Section 2 of the document and promises 5 to 18, sentence by sentence: hours, and what is done. */
public final class HourEdgesTest {
    private static final int NONE = Edges.NONE, UNKNOWN = Edges.UNKNOWN, OUTSIDE = Edges.OUTSIDE, NOT = Edges.NOT;
    private static final int[] TOO_FAR = {Edges.LEAST, -2, -1};
    /** He goes where it is quiet alone: 0, 1, 0, 1 and so on. */
    private static final String QUIET = "s16;r1 0;r2 1;r5 0;d0 1;d0 2;p1 10;p2 20;";
    private static final String ONE = "s27;r3 0;p0 9;";

    private static void due(String call, int got, int want) {
        Edges.due(call, got, want);
    }

    private static SlipperDuke made(String text) {
        return Edges.made(text);
    }

    private static void aNewObject() {
        Edges.says("SlipperDuke(): No PALACE");
        SlipperDuke x = new SlipperDuke();
        int[] told = {0, 0, 0, 0, NONE, 0, NONE, 0, 0, 0, 0, 0, 0, 0, 0, 0};
        for (int what = 0; what < told.length; what++) due("told(" + what + ")", x.told(what), told[what]);
        due("fault()", x.fault(), NONE);
        due("sole()", x.sole(), NOT);
        due("teach(0)", x.teach(0), NOT);
        due("hour(1)", x.hour(1), NOT);
        due("undo()", x.undo(), NOT);
        due("went(0)", x.went(0), NONE);
        due("seed(0)", x.seed(0), 0);
    }

    private static void oneRoom() {
        Edges.says("told(): 6 the ROOM where he is (NONE: no ROOMS)");
        due("told(6) without a palace", new SlipperDuke().told(6), NONE);
        due("told(6) without rooms", made("s1;").told(6), NONE);
        SlipperDuke x = made(ONE);
        due("told(6) of one room", x.told(6), 0);
        due("hour(60): he stays", x.hour(60), 0);
        due("told(6)", x.told(6), 0);
        due("drift(60): he stays", x.drift(60), 0);
        due("told(5)", x.told(5), 120);
        due("told(7)", x.told(7), 0);
    }

    private static void toldBounds() {
        Edges.says("told(): 0 .. 15. OUTSIDE");
        SlipperDuke x = made(QUIET);
        for (int what : TOO_FAR) due("told(" + what + ")", x.told(what), OUTSIDE);
        due("told(16)", x.told(16), OUTSIDE);
        due("told(MOST)", x.told(Edges.MOST), OUTSIDE);
        due("told(0)", x.told(0), 3);
        due("told(15)", x.told(15), 0);
    }

    private static void roomBounds() {
        Edges.says("Of a ROOM: what = 0 .. 4. UNKNOWN, OUTSIDE");
        SlipperDuke x = made("s0;r0 0;r0 0;r0 0;r0 0;r0 0;r0 0;r0 0;r7 0;d7 0;");
        due("room(7, 0)", x.room(7, 0), 7);
        due("room(7, 3)", x.room(7, 3), 1);
        due("room(0, 3)", x.room(0, 3), 128);
        due("room(7, 4)", x.room(7, 4), 0);
        due("room(7, 5)", x.room(7, 5), OUTSIDE);
        due("room(7, MOST)", x.room(7, Edges.MOST), OUTSIDE);
        due("room(8, 0)", x.room(8, 0), UNKNOWN);
        due("room(MOST, 0)", x.room(Edges.MOST, 0), UNKNOWN);
        for (int far : TOO_FAR) {
            due("room(7, " + far + ")", x.room(7, far), OUTSIDE);
            due("room(" + far + ", 0)", x.room(far, 0), UNKNOWN);
            due("room(" + far + ", " + far + ")", x.room(far, far), UNKNOWN);
        }
        due("room(0, 0) without rooms", made("s1;").room(0, 0), UNKNOWN);
    }

    private static void petitionBounds() {
        Edges.says("Of a PETITION: what = 0 .. 2. UNKNOWN, OUTSIDE");
        SlipperDuke x = made("s0;r0 0;p0 1;p0 2;p0 3;p0 4;p0 5;p0 6;");
        due("petition(5, 1)", x.petition(5, 1), 6);
        due("petition(5, 2)", x.petition(5, 2), 0);
        due("petition(5, 3)", x.petition(5, 3), OUTSIDE);
        due("petition(5, MOST)", x.petition(5, Edges.MOST), OUTSIDE);
        due("petition(6, 0)", x.petition(6, 0), UNKNOWN);
        due("petition(MOST, 0)", x.petition(Edges.MOST, 0), UNKNOWN);
        for (int far : TOO_FAR) {
            due("petition(5, " + far + ")", x.petition(5, far), OUTSIDE);
            due("petition(" + far + ", " + far + ")", x.petition(far, far), UNKNOWN);
        }
        due("petition(0, 0) without one", made("s0;r0 0;").petition(0, 0), UNKNOWN);
    }

    private static void ruleParts() {
        Edges.says("RULE R: QUIET q is R / 16, SOFT s is R / 4 left over by 4, NEW n is R left over by 4");
        SlipperDuke x = made("s0;r5 0;");
        x.hour(2);
        for (int q = 0; q < 4; q++) {
            for (int s = 0; s < 4; s++) {
                for (int n = 0; n < 4; n++) {
                    x.teach(16 * q + 4 * s + n);
                    due("room(0, 2) by " + q + s + n, x.room(0, 2), 5 * q + 3 * s + 2 * n);
                }
            }
        }
    }

    private static void worn() {
        Edges.says("q times its NOISE (twice that, with WEAR of 50 or more)");
        SlipperDuke x = made("s63;r9 0;r9 1;d0 1;");
        x.hour(49);
        due("told(7)", x.told(7), 49);
        due("room(0, 2), WEAR 49: 27 + 9 + 27", x.room(0, 2), 63);
        due("room(1, 2), WEAR 49: 27 + 27", x.room(1, 2), 54);
        x.hour(1);
        due("room(0, 2), WEAR 50: 54 + 9 + 27", x.room(0, 2), 90);
        due("room(1, 2), WEAR 50: 54 + 27", x.room(1, 2), 81);
        x.hour(1);
        due("room(0, 2), WEAR 51", x.room(0, 2), 90);
        due("sole()", x.sole(), 51);
        due("room(0, 2), WEAR 0", x.room(0, 2), 63);
    }

    private static void oftenFelt() {
        Edges.says("n times how often it was GOVERNED (9 at most)");
        SlipperDuke x = made("s3;r9 0;");
        for (int often = 1; often <= 12; often++) {
            x.hour(1);
            due("room(0, 1)", x.room(0, 1), often);
            due("room(0, 2)", x.room(0, 2), 3 * Math.min(9, often));
        }
    }

    private static void heardOnce() {
        Edges.says("all PETITIONS chalked there are HEARD (each once; chalked anew it can be HEARD again)");
        SlipperDuke x = made("s0;r0 0;r0 0;p0 5;p0 7;p1 90;p0 0;");
        x.hour(1);
        due("told(11)", x.told(11), 11);
        due("told(12)", x.told(12), 12);
        x.hour(9);
        due("told(12): each once", x.told(12), 12);
        due("chalk(1, 0): where it was", x.chalk(1, 0), 0);
        due("told(11)", x.told(11), 9);
        due("told(12)", x.told(12), 12);
        x.hour(9);
        due("told(11)", x.told(11), 11);
        due("told(12): heard again", x.told(12), 19);
        due("chalk(0, 1): away", x.chalk(0, 1), 0);
        x.hour(9);
        due("told(11)", x.told(11), 10);
        due("told(12)", x.told(12), 19);
    }

    /** 1683 times 594, and 297 more, are 999999: 512 calls do not lead so far, but the sentence is looked at all the same. */
    private static void mostWorth() {
        Edges.says("12 worth of all HEARD (each time; 999999 at most)");
        SlipperDuke x = made("s0;r0 0;p0 99;p0 99;p0 99;p0 99;p0 99;p0 99;");
        for (int i = 0; i < 1683; i++) {
            x.hour(1);
            for (int p = 0; p < 6; p++) x.chalk(p, 0);
        }
        due("told(12)", x.told(12), 999702);
        x.hour(1);
        due("told(12) with 594 more", x.told(12), 999999);
        due("told(11): they are heard all the same", x.told(11), 63);
        for (int i = 0; i < 4; i++) x.undo();
        due("told(11): three are not heard", x.told(11), 56);
        x.hour(1);
        due("told(12) with 297 more", x.told(12), 999999);
        x.chalk(0, 0);
        x.hour(1);
        due("told(12) with 99 more", x.told(12), 999999);
    }

    private static void stays() {
        Edges.says("he stays, if there is none. WEAR is one more for each HOUR in which he went");
        SlipperDuke[] all = {made("s0;r0 0;r0 0;"), made("s0;r0 0;r0 0;d0 1;"), made("s0;r0 0;r0 0;d0 1;")};
        all[1].brick(0, true);
        all[2].nail(1, true);
        for (SlipperDuke x : all) {
            due("hour(3)", x.hour(3), 0);
            due("told(5)", x.told(5), 3);
            due("room(0, 1)", x.room(0, 1), 3);
            due("told(7)", x.told(7), 0);
            due("told(13)", x.told(13), 0);
            due("went(0)", x.went(0), NONE);
        }
        all[1].brick(0, false);
        all[2].nail(1, false);
        due("hour(1), no longer bricked", all[1].hour(1), 1);
        due("hour(1), no longer nailed", all[2].hour(1), 1);
        due("told(7)", all[1].told(7), 1);
    }

    private static void leastOfLikeOnes() {
        Edges.says("the ROOM without a NAIL that has least PULL; of like ones the least");
        SlipperDuke x = made("s16;r0 0;r9 0;r4 0;r4 0;r4 0;d0 4;d0 3;d0 2;d0 1;");
        due("where(1): 2, 3, 4 are alike", x.where(1), 2);
        x.nail(2, true);
        due("where(1) with a nail in 2", x.where(1), 3);
        x.brick(1, true);
        due("where(1), the door to 3 bricked", x.where(1), 4);
        x.noise(1, 4);
        due("where(1): 1 is alike now", x.where(1), 1);
        x.noise(1, 5);
        due("where(1): by one more", x.where(1), 4);
    }

    private static void mostWear() {
        Edges.says("WEAR (999 at most)");
        SlipperDuke x = made("s0;r0 0;r0 0;d0 1;");
        for (int i = 0; i < 16; i++) x.hour(60);
        x.hour(38);
        due("told(7)", x.told(7), 998);
        x.hour(1);
        due("told(7)", x.told(7), 999);
        x.hour(1);
        due("told(7)", x.told(7), 999);
        x.hour(60);
        due("sole()", x.sole(), 999);
        due("told(7)", x.told(7), 0);
        x.hour(1);
        due("told(7)", x.told(7), 1);
    }

    private static void nailWhereHeIs() {
        Edges.says("A NAIL lies in a ROOM, or not (he may be there)");
        SlipperDuke x = made(QUIET);
        due("nail(0, true)", x.nail(0, true), 0);
        due("told(9)", x.told(9), 1);
        due("told(6)", x.told(6), 0);
        due("hour(1): he goes from there", x.hour(1), 1);
        due("room(0, 1): he governed there", x.room(0, 1), 1);
        due("hour(1): not back", x.hour(1), 1);
    }

    private static void sixtyHours() {
        Edges.says("n HOURS (1 .. 60): the ROOM. OUTSIDE, NOT: no ROOMS");
        int[] outside = {Edges.LEAST, -1, 0, 61, Edges.MOST};
        SlipperDuke x = made(QUIET);
        for (int n : outside) {
            due("hour(" + n + ")", x.hour(n), OUTSIDE);
            due("drift(" + n + ")", x.drift(n), OUTSIDE);
            due("hour(" + n + ") without rooms", made("s1;").hour(n), OUTSIDE);
            due("drift(" + n + ") without a palace", new SlipperDuke().drift(n), OUTSIDE);
        }
        due("told(5)", x.told(5), 0);
        due("hour(1)", x.hour(1), 1);
        due("hour(60)", x.hour(60), 1);
        due("told(5)", x.told(5), 61);
        due("drift(60)", x.drift(60) >= 0 ? 1 : 0, 1);
        due("told(5)", x.told(5), 121);
        due("hour(1) without rooms", made("s1;").hour(1), NOT);
        due("hour(60) without a palace", new SlipperDuke().hour(60), NOT);
        due("drift(1) without rooms", made("s1;").drift(1), NOT);
        due("drift(60) without a palace", new SlipperDuke().drift(60), NOT);
    }

    private static void hoursAreFull() {
        Edges.says("FULL: HOURS are above 9000");
        SlipperDuke x = made(ONE);
        for (int i = 0; i < 149; i++) x.hour(60);
        due("hour(59)", x.hour(59), 0);
        due("told(5)", x.told(5), 8999);
        due("hour(1) at 8999", x.hour(1), 0);
        due("drift(1) at 9000", x.drift(1), 0);
        due("told(5)", x.told(5), 9001);
        int[] hours = {1, 60};
        for (int n : hours) {
            due("hour(" + n + ") at 9001", x.hour(n), Edges.FULL);
            due("drift(" + n + ") at 9001", x.drift(n), Edges.FULL);
        }
        due("room(0, 1)", x.room(0, 1), 9001);
        due("undo()", x.undo(), 15);
        due("hour(60) at 9000", x.hour(60), 0);
        due("told(5)", x.told(5), 9060);
        due("write(0, 9060)", x.write(0, 9060), 1);
        due("judge()", x.judge(), NONE);
        Edges.fed(x, ONE);
        x.palace();
        due("hour(1) in a new palace", x.hour(1), 0);
    }

    private static void carpetAndNail() {
        Edges.says("A CARPET, a NAIL (is), or none: 1 it lay, 0 not. UNKNOWN");
        SlipperDuke x = made("s0;r0 0;r0 0;r0 0;r0 0;r0 0;r0 0;r0 0;r0 1;");
        int[] unknown = {Edges.LEAST, -1, 8, 32, Edges.MOST};
        for (int a : unknown) {
            due("carpet(" + a + ", true)", x.carpet(a, true), UNKNOWN);
            due("carpet(" + a + ", false)", x.carpet(a, false), UNKNOWN);
            due("nail(" + a + ", true)", x.nail(a, true), UNKNOWN);
            due("nail(" + a + ", false)", x.nail(a, false), UNKNOWN);
        }
        due("told(8)", x.told(8), 128);
        due("carpet(7, false)", x.carpet(7, false), 1);
        due("carpet(7, false)", x.carpet(7, false), 0);
        due("carpet(0, true)", x.carpet(0, true), 0);
        due("carpet(0, true)", x.carpet(0, true), 1);
        due("told(8)", x.told(8), 1);
        due("nail(7, true)", x.nail(7, true), 0);
        due("nail(7, true)", x.nail(7, true), 1);
        due("nail(0, true)", x.nail(0, true), 0);
        due("nail(7, false)", x.nail(7, false), 1);
        due("nail(7, false)", x.nail(7, false), 0);
        due("told(9)", x.told(9), 1);
        due("told(15): what changes nothing was done all the same", x.told(15), 9);
        due("carpet(0, true) without rooms", made("s1;").carpet(0, true), UNKNOWN);
        due("nail(0, true) without a palace", new SlipperDuke().nail(0, true), UNKNOWN);
    }

    private static void noise() {
        Edges.says("NOISE (0 .. 9): what it was. UNKNOWN, OUTSIDE");
        SlipperDuke x = made(QUIET);
        int[] outside = {Edges.LEAST, -1, 10, 16, Edges.MOST};
        for (int n : outside) {
            due("noise(2, " + n + ")", x.noise(2, n), OUTSIDE);
            due("noise(3, " + n + ")", x.noise(3, n), UNKNOWN);
        }
        for (int a : TOO_FAR) due("noise(" + a + ", 0)", x.noise(a, 0), UNKNOWN);
        due("noise(3, 0)", x.noise(3, 0), UNKNOWN);
        due("noise(MOST, 0)", x.noise(Edges.MOST, 0), UNKNOWN);
        due("told(15)", x.told(15), 0);
        int was = 5;
        for (int n = 0; n <= 9; n++) {
            due("noise(2, " + n + ")", x.noise(2, n), was);
            due("room(2, 0)", x.room(2, 0), n);
            was = n;
        }
        due("room(1, 0)", x.room(1, 0), 2);
    }

    private static void brick() {
        Edges.says("A DOOR is BRICKED (is), or not: 1 it was, 0 not. UNKNOWN");
        SlipperDuke x = made("s0;r0 0;r0 0;r0 0;r0 0;r0 0;r0 0;d0 1;d0 2;d0 3;d0 4;d0 5;d1 2;d1 3;d1 4;d1 5;d2 3;d2 4;d5 2;");
        int[] unknown = {Edges.LEAST, -1, 12, Edges.MOST};
        for (int d : unknown) {
            due("brick(" + d + ", true)", x.brick(d, true), UNKNOWN);
            due("brick(" + d + ", false)", x.brick(d, false), UNKNOWN);
        }
        due("told(15)", x.told(15), 0);
        due("brick(11, true)", x.brick(11, true), 0);
        due("brick(11, true)", x.brick(11, true), 1);
        due("brick(0, true)", x.brick(0, true), 0);
        due("told(10)", x.told(10), 2049);
        due("room(2, 3): 5 is beside no more", x.room(2, 3), 27);
        due("room(5, 3): nor 2 beside it", x.room(5, 3), 3);
        due("brick(11, false)", x.brick(11, false), 1);
        due("brick(11, false)", x.brick(11, false), 0);
        due("room(5, 3)", x.room(5, 3), 7);
        due("brick(0, true) without doors", made("s0;r0 0;").brick(0, true), UNKNOWN);
    }

    private static void chalk() {
        Edges.says("CHALKED in a ROOM: the ROOM where it was. UNKNOWN");
        SlipperDuke x = made(QUIET);
        int[] noPetition = {Edges.LEAST, -1, 2, Edges.MOST};
        for (int p : noPetition) {
            due("chalk(" + p + ", 0)", x.chalk(p, 0), UNKNOWN);
            due("chalk(" + p + ", 3)", x.chalk(p, 3), UNKNOWN);
        }
        int[] noRoom = {Edges.LEAST, -1, 3, Edges.MOST};
        for (int a : noRoom) due("chalk(1, " + a + ")", x.chalk(1, a), UNKNOWN);
        due("told(15)", x.told(15), 0);
        due("chalk(1, 1): as a room's number", x.chalk(1, 1), 2);
        due("chalk(1, 2)", x.chalk(1, 2), 1);
        due("petition(1, 0)", x.petition(1, 0), 2);
        due("chalk(0, 0) without petitions", made("s0;r0 0;").chalk(0, 0), UNKNOWN);
    }

    private static void soleAndTeach() {
        Edges.says("SOLED: WEAR. NOT: no PALACE. TAUGHT: the RULE that was. UNKNOWN, NOT: no PALACE");
        due("sole() without a palace", new SlipperDuke().sole(), NOT);
        SlipperDuke x = made("s63;");
        due("sole() without rooms", x.sole(), 0);
        due("teach(0) without rooms", x.teach(0), 63);
        due("teach(63)", x.teach(63), 0);
        due("told(15)", x.told(15), 3);
        int[] unknown = {Edges.LEAST, -1, 64, Edges.MOST};
        for (int r : unknown) {
            due("teach(" + r + ")", x.teach(r), UNKNOWN);
            due("teach(" + r + ") without a palace", new SlipperDuke().teach(r), UNKNOWN);
        }
        due("teach(0) without a palace", new SlipperDuke().teach(0), NOT);
        due("told(4)", x.told(4), 63);
        due("undo()", x.undo(), 2);
        due("told(4)", x.told(4), 0);
    }

    private static void wayBounds() {
        Edges.says("Of THE WAY, 0 the latest: 10 times from where, and to which ROOM; NONE; THE WAY keeps the latest 16 HOURS");
        SlipperDuke x = made("s0;r0 0;r0 0;r0 0;r0 0;r0 0;r0 0;r0 0;r0 0;d0 7;d7 1;");
        due("went(0) of none", x.went(0), NONE);
        x.hour(1);
        due("went(0)", x.went(0), 7);
        due("went(1)", x.went(1), NONE);
        x.brick(0, true);
        x.hour(1);
        due("went(0)", x.went(0), 71);
        x.hour(14);
        due("told(13)", x.told(13), 16);
        due("went(15): the first of 16", x.went(15), 7);
        x.hour(1);
        due("told(13)", x.told(13), 16);
        due("went(15): the second of 17", x.went(15), 71);
        due("went(16)", x.went(16), NONE);
        for (int i : TOO_FAR) due("went(" + i + ")", x.went(i), NONE);
        due("went(MOST)", x.went(Edges.MOST), NONE);
    }

    private static void undoBounds() {
        Edges.says("UNDONE: the latest that was not refused (16 at most are kept, the oldest are lost). NOT: none");
        SlipperDuke x = made(QUIET);
        due("undo() of none", x.undo(), NOT);
        for (int n = 0; n < 10; n++) x.noise(0, n);
        for (int n = 1; n < 8; n++) x.noise(0, n);
        due("told(15) of 17", x.told(15), 16);
        x.noise(0, 10);
        x.hour(0);
        x.brick(2, true);
        x.teach(64);
        due("told(15): none that was refused", x.told(15), 16);
        for (int left = 15; left >= 0; left--) due("undo()", x.undo(), left);
        due("room(0, 0): the first is not undone", x.room(0, 0), 0);
        due("undo()", x.undo(), NOT);
        due("told(15)", x.told(15), 0);
        x.noise(0, 6);
        due("undo() of one", x.undo(), 0);
        due("room(0, 0)", x.room(0, 0), 0);
    }

    private static void undoOfTheWay() {
        Edges.says("all of section 2, THE WAY are as ahead of it; THE SEED stays");
        SlipperDuke x = made("s16;r0 0;r1 0;r0 0;d0 1;d0 2;");
        x.hour(1);
        due("fit(-1): q above 0", x.fit(-1), 48);
        x.noise(1, 0);
        x.noise(2, 9);
        x.carpet(1, true);
        x.seed(77);
        x.drift(60);
        int seed = x.seed(0);
        x.seed(seed);
        for (int left = 4; left > 0; left--) due("undo()", x.undo(), left);
        due("fit(-1): by all as it was then", x.fit(-1), 48);
        due("fit(0)", x.fit(0), 16);
        due("went(0)", x.went(0), 2);
        due("went(1)", x.went(1), NONE);
        due("told(7)", x.told(7), 1);
        due("seed(0) stays", x.seed(0), seed);
    }

    private static void wayOfANewPalace() {
        Edges.says("HOUR 0, he is in ROOM 0, nothing HEARD, NAILED, BRICKED; no BOOK; IMAGES, what could be undone are gone; THE SEED stays");
        SlipperDuke x = made(QUIET);
        x.hour(5);
        x.nail(2, true);
        x.brick(1, true);
        x.carpet(0, true);
        x.teach(0);
        x.seed(4);
        x.write(0, 3);
        x.keep(0);
        x.keep(1);
        x.sole();
        Edges.fed(x, "s16;r0 0;r1 0;r0 0;d0 1;d0 2;p0 3;");
        due("palace()", x.palace(), 3);
        int[] told = {3, 2, 1, 0, 16, 0, 0, 0, 0, 0, 0, 0, 0, 0, 0, 0};
        for (int what = 0; what < told.length; what++) due("told(" + what + ")", x.told(what), told[what]);
        due("undo()", x.undo(), NOT);
        due("goBack(0)", x.goBack(0), NOT);
        due("goBack(1)", x.goBack(1), NOT);
        due("judge()", x.judge(), NONE);
        due("seed(4)", x.seed(4), 4);
        for (int a = 0; a < 3; a++) due("room(" + a + ", 1)", x.room(a, 1), 0);
        due("hour(1)", x.hour(1), 2);
        due("fit(-1) of the new way alone", x.fit(-1), 48);
        due("went(1)", x.went(1), NONE);
    }

    public static void main(String[] args) {
        aNewObject();
        oneRoom();
        toldBounds();
        roomBounds();
        petitionBounds();
        ruleParts();
        worn();
        oftenFelt();
        heardOnce();
        mostWorth();
        stays();
        leastOfLikeOnes();
        mostWear();
        nailWhereHeIs();
        sixtyHours();
        hoursAreFull();
        carpetAndNail();
        noise();
        brick();
        chalk();
        soleAndTeach();
        wayBounds();
        undoBounds();
        undoOfTheWay();
        wayOfANewPalace();
        Edges.end();
    }
}
