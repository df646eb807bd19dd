import java.util.ArrayList;
import java.util.List;

/** The document's words on refusals: their order, that they change nothing; that nothing changes by what is tried. */
public final class RefusalsTest {
    private static final int UNKNOWN = Edges.UNKNOWN, OUTSIDE = Edges.OUTSIDE, NOT = Edges.NOT, FULL = Edges.FULL;
    private static final int[] INTS = {Edges.LEAST, Edges.LEAST + 1, -1000000001, -65537, -256, -2, -1, 0, 1, 2, 7, 8, 9, 15, 16, 31, 32, 33,
        63, 64, 65, 100, 101, 255, 256, 9999, 10000, 65536, 12345678, 99999999, 100000000, Edges.MOST - 1, Edges.MOST};

    /** A refused call, or one by which nothing changes. */
    private record Asked(String name, int due, Edges.Call call) { }

    private static void due(String call, int got, int want) {
        Edges.due(call, got, want);
    }

    /** Every kind of state is in use: hours, a way, carpets, nails, bricks, chalk, a book, a seed, images, some to undo, a text. */
    private static SlipperDuke used() {
        SlipperDuke x = Edges.made("s27;r4 0;r3 1;r2 0;r1 1;r7 0;d0 1;d1 2;d2 3;d3 0;d2 4;p1 10;p2 20;p4 30;");
        x.hour(7);
        x.keep(0);
        x.noise(2, 8);
        x.hour(2);
        x.write(0, 2);
        x.write(1, 9);
        x.seed(4711);
        x.chalk(0, 3);
        x.carpet(4, true);
        x.nail(3, true);
        x.brick(4, true);
        x.hour(3);
        x.teach(44);
        Edges.fed(x, "s5;");
        return x;
    }

    private static SlipperDuke fullOfHours() {
        SlipperDuke x = Edges.made("s27;r4 0;r3 1;d0 1;p1 10;");
        for (int i = 0; i < 151; i++) x.hour(60);
        for (int i = 0; i < 15; i++) x.write(0, i);
        return x;
    }

    private static SlipperDuke fullOfLetters() {
        SlipperDuke x = Edges.made("s27;r4 0;r3 1;d0 1;p1 10;");
        for (int i = 0; i < 240; i++) x.feed(' ');
        return x;
    }

    /** All that can be asked without changing anything; the seed is asked last and put back. */
    private static List<Integer> seen(SlipperDuke x) {
        List<Integer> all = new ArrayList<>();
        for (int what = 0; what < 16; what++) all.add(x.told(what));
        int rooms = x.told(0);
        int petitions = x.told(2);
        for (int a = 0; a < rooms; a++) {
            for (int what = 0; what < 5; what++) all.add(x.room(a, what));
        }
        for (int p = 0; p < petitions; p++) {
            for (int what = 0; what < 3; what++) all.add(x.petition(p, what));
        }
        for (int i = 0; i < 16; i++) all.add(x.went(i));
        all.add(x.fault());
        all.add(x.fit(-1));
        all.add(x.tells());
        all.add(x.where(30));
        all.add(x.judge());
        int seed = x.seed(0);
        x.seed(seed);
        all.add(seed);
        return all;
    }

    private static void same(String call, List<Integer> got, List<Integer> want) {
        due(call + ": how much is seen", got.size(), want.size());
        for (int k = 0; k < Math.min(got.size(), want.size()); k++) due(call + ": what is seen, " + k, got.get(k), want.get(k));
    }

    private static void changesNothing(Asked asked, SlipperDuke x, SlipperDuke untouched) {
        due(asked.name(), asked.call().on(x), asked.due());
        same("behind " + asked.name(), seen(x), seen(untouched));
        same("undone behind " + asked.name(), undone(x), undone(untouched));
    }

    /** What is behind what is seen: all that can be undone, the images, the letters of the text. */
    private static List<Integer> undone(SlipperDuke x) {
        List<Integer> all = new ArrayList<>();
        for (int left = x.told(15); left > 0; left--) {
            all.add(x.undo());
            all.add(x.told(5) * 1000 + x.told(4));
        }
        for (int i = 1; i >= 0; i--) {
            all.add(x.goBack(i));
            all.add(x.told(5));
        }
        all.add(x.seed(1));
        all.add(x.palace());
        all.add(x.told(4));
        return all;
    }

    private static List<Asked> refused() {
        return List.of(
            new Asked("feed(-1)", OUTSIDE, x -> x.feed(-1)), new Asked("feed(256)", OUTSIDE, x -> x.feed(256)),
            new Asked("told(16)", OUTSIDE, x -> x.told(16)), new Asked("room(5, 0)", UNKNOWN, x -> x.room(5, 0)),
            new Asked("room(0, 5)", OUTSIDE, x -> x.room(0, 5)), new Asked("petition(3, 0)", UNKNOWN, x -> x.petition(3, 0)),
            new Asked("petition(0, 3)", OUTSIDE, x -> x.petition(0, 3)),
            new Asked("hour(0)", OUTSIDE, x -> x.hour(0)), new Asked("hour(61)", OUTSIDE, x -> x.hour(61)),
            new Asked("carpet(5, true)", UNKNOWN, x -> x.carpet(5, true)), new Asked("carpet(-1, false)", UNKNOWN, x -> x.carpet(-1, false)),
            new Asked("noise(5, 1)", UNKNOWN, x -> x.noise(5, 1)), new Asked("noise(0, 10)", OUTSIDE, x -> x.noise(0, 10)),
            new Asked("noise(0, -1)", OUTSIDE, x -> x.noise(0, -1)), new Asked("nail(5, true)", UNKNOWN, x -> x.nail(5, true)),
            new Asked("brick(5, true)", UNKNOWN, x -> x.brick(5, true)), new Asked("brick(-1, false)", UNKNOWN, x -> x.brick(-1, false)),
            new Asked("chalk(3, 0)", UNKNOWN, x -> x.chalk(3, 0)), new Asked("chalk(0, 5)", UNKNOWN, x -> x.chalk(0, 5)),
            new Asked("teach(64)", UNKNOWN, x -> x.teach(64)), new Asked("teach(-1)", UNKNOWN, x -> x.teach(-1)),
            new Asked("drift(0)", OUTSIDE, x -> x.drift(0)), new Asked("drift(61)", OUTSIDE, x -> x.drift(61)),
            new Asked("write(5, 0)", UNKNOWN, x -> x.write(5, 0)), new Asked("write(0, 10000)", OUTSIDE, x -> x.write(0, 10000)),
            new Asked("seed(-1)", OUTSIDE, x -> x.seed(-1)), new Asked("keep(2)", UNKNOWN, x -> x.keep(2)),
            new Asked("keep(-1)", UNKNOWN, x -> x.keep(-1)), new Asked("goBack(2)", UNKNOWN, x -> x.goBack(2)),
            new Asked("goBack(1)", NOT, x -> x.goBack(1)), new Asked("teachFor(6)", OUTSIDE, x -> x.teachFor(6)),
            new Asked("otherwise(64)", UNKNOWN, x -> x.otherwise(64)), new Asked("carpets(0, 21)", OUTSIDE, x -> x.carpets(0, 21)));
    }

    private static List<Asked> refusedWithoutAPalace() {
        return List.of(
            new Asked("hour(1)", NOT, x -> x.hour(1)), new Asked("sole()", NOT, SlipperDuke::sole), new Asked("teach(5)", NOT, x -> x.teach(5)),
            new Asked("drift(1)", NOT, x -> x.drift(1)), new Asked("undo()", NOT, SlipperDuke::undo), new Asked("goBack(0)", NOT, x -> x.goBack(0)),
            new Asked("carpet(0, true)", UNKNOWN, x -> x.carpet(0, true)), new Asked("noise(0, 1)", UNKNOWN, x -> x.noise(0, 1)),
            new Asked("nail(0, true)", UNKNOWN, x -> x.nail(0, true)), new Asked("brick(0, true)", UNKNOWN, x -> x.brick(0, true)),
            new Asked("chalk(0, 0)", UNKNOWN, x -> x.chalk(0, 0)), new Asked("write(0, 0)", UNKNOWN, x -> x.write(0, 0)));
    }

    private static void refusedChangesNothing() {
        Edges.says("What is refused changes nothing");
        for (Asked asked : refused()) changesNothing(asked, used(), used());
        for (Asked asked : refusedWithoutAPalace()) changesNothing(asked, new SlipperDuke(), new SlipperDuke());
        List<Asked> full = List.of(
            new Asked("hour(1)", FULL, x -> x.hour(1)), new Asked("drift(60)", FULL, x -> x.drift(60)), new Asked("write(1, 7)", FULL, x -> x.write(1, 7)));
        for (Asked asked : full) changesNothing(asked, fullOfHours(), fullOfHours());
        changesNothing(new Asked("feed('x')", FULL, x -> x.feed('x')), fullOfLetters(), fullOfLetters());
    }

    private static void triedChangesNothing() {
        Edges.says("TRIED from now; nothing changes by it");
        List<Edges.Call> tried = List.of(
            x -> x.where(100), x -> x.when(4), x -> x.governed(1, 100), SlipperDuke::ring, x -> x.carpets(4, 20), x -> x.bricks(4),
            x -> x.quietest(4), SlipperDuke::stand, x -> x.willHear(100), x -> x.dance(60, 3), x -> x.fit(-1), x -> x.fit(3),
            SlipperDuke::tells, x -> x.teachFor(2), x -> x.teachFor(0), x -> x.otherwise(5), SlipperDuke::judge, SlipperDuke::fault, x -> x.went(2));
        for (int k = 0; k < tried.size(); k++) {
            SlipperDuke x = used();
            SlipperDuke untouched = used();
            int first = tried.get(k).on(x);
            due("the same asked again, " + k, tried.get(k).on(x), first);
            same("behind what was tried, " + k, seen(x), seen(untouched));
            same("undone behind what was tried, " + k, undone(x), undone(untouched));
        }
    }

    private static void faultChangesNothing() {
        Edges.says("-10 less the number of its FAULT (all else is as it was)");
        String[] texts = {"x", "6", "r9 9;r9 9;p1", "s9;", "r1 1;r1 1;r1 1;r1 1;r1 1;r1 1;r1 1;r1 1;r1 1;", "r1 1;d0 0;"};
        int[] faults = {-11, -11, -12, -13, -13, -14};
        for (int k = 0; k < texts.length; k++) {
            SlipperDuke x = Edges.fed(used(), texts[k]);
            SlipperDuke untouched = used();
            due("palace() of 's5;" + texts[k] + "'", x.palace(), faults[k]);
            List<Integer> now = seen(x);
            List<Integer> then = seen(untouched);
            due("the text is empty", now.set(3, then.get(3)), 0);
            int faultAt = 16 + 5 * 5 + 3 * 3 + 16;
            due("fault()", now.get(faultAt) >= 3 ? 1 : 0, 1);
            now.set(faultAt, then.get(faultAt));
            same("behind a fault", now, then);
            List<Integer> nowUndone = undone(x);
            List<Integer> thenUndone = undone(untouched);
            same("undone behind a fault", nowUndone.subList(0, nowUndone.size() - 2), thenUndone.subList(0, thenUndone.size() - 2));
        }
    }

    private static void order() {
        Edges.says("REFUSALS, of several the first in this order: UNKNOWN, OUTSIDE, NOT, FULL");
        SlipperDuke none = new SlipperDuke();
        due("room(0, 9) without a palace", none.room(0, 9), UNKNOWN);
        due("petition(0, 9) without a palace", none.petition(0, 9), UNKNOWN);
        due("noise(0, 10) without a palace", none.noise(0, 10), UNKNOWN);
        due("governed(0, 0) without a palace", none.governed(0, 0), UNKNOWN);
        due("carpets(0, 21) without a palace", none.carpets(0, 21), UNKNOWN);
        due("write(0, -1) without a palace", none.write(0, -1), UNKNOWN);
        due("teach(64) without a palace", none.teach(64), UNKNOWN);
        due("otherwise(64) without a palace", none.otherwise(64), UNKNOWN);
        due("goBack(2), nothing kept", none.goBack(2), UNKNOWN);
        due("hour(61) without a palace", none.hour(61), OUTSIDE);
        due("drift(0) without a palace", none.drift(0), OUTSIDE);
        due("where(101) without a palace", none.where(101), OUTSIDE);
        due("willHear(0) without a palace", none.willHear(0), OUTSIDE);
        due("teachFor(-1) without a palace", none.teachFor(-1), OUTSIDE);
        SlipperDuke full = fullOfHours();
        due("hour(0) above 9000", full.hour(0), OUTSIDE);
        due("drift(61) above 9000", full.drift(61), OUTSIDE);
        due("write(2, 0) to a full book", full.write(2, 0), UNKNOWN);
        due("write(2, -1) to a full book", full.write(2, -1), UNKNOWN);
        due("write(1, -1) to a full book", full.write(1, -1), OUTSIDE);
        due("feed(256) to a full text", fullOfLetters().feed(256), OUTSIDE);
        due("feed(-1) to a full text", fullOfLetters().feed(-1), OUTSIDE);
    }

    /** Every call with numbers that are much too small or too large: an answer comes, and a refusal is one of the four. */
    private static void everyNumber() {
        Edges.says("A refusal is UNKNOWN, OUTSIDE, NOT or FULL, for whatever numbers");
        List<Edges.Call> made = List.of(x -> 0, x -> Edges.fed(x, "s1;").palace(), x -> Edges.fed(x, "s9;r1 0;").palace(),
            x -> Edges.fed(x, "s9;r1 0;r2 1;r3 0;r4 1;r5 0;r6 1;r7 0;r8 1;d0 7;d1 7;d2 6;d6 0;p7 1;").palace());
        for (Edges.Call first : made) {
            for (int a : INTS) {
                SlipperDuke x = new SlipperDuke();
                first.on(x);
                answers(x, a);
                for (int b : INTS) {
                    int[] got = {x.room(a, b), x.petition(a, b), x.noise(a, b), x.chalk(a, b), x.governed(a, b), x.carpets(a, b), x.dance(a, b),
                        x.write(a, b)};
                    for (int k = 0; k < got.length; k++) due("call " + k + " of " + a + ", " + b, isAnswer(got[k]) ? 1 : 0, 1);
                }
            }
        }
    }

    private static void answers(SlipperDuke x, int a) {
        int[] got = {x.feed(a), x.told(a), x.went(a), x.hour(a), x.carpet(a, true), x.carpet(a, false), x.nail(a, true), x.nail(a, false),
            x.brick(a, true), x.brick(a, false), x.teach(a), x.drift(a), x.where(a), x.when(a), x.bricks(a), x.quietest(a), x.willHear(a),
            x.fit(a), x.teachFor(a), x.otherwise(a), x.seed(a), x.keep(a), x.goBack(a)};
        for (int k = 0; k < got.length; k++) due("call " + k + " of " + a, isAnswer(got[k]) ? 1 : 0, 1);
    }

    private static boolean isAnswer(int got) {
        return got >= -1 || got == UNKNOWN || got == OUTSIDE || got == NOT || got == FULL;
    }

    public static void main(String[] args) {
        refusedChangesNothing();
        triedChangesNothing();
        faultChangesNothing();
        order();
        everyNumber();
        Edges.end();
    }
}
