import java.util.Random;

/** Runs of calls by chance (always the same ones), each answer compared with that of NaiveDuke. */
public final class RandomRunsTest {
    private static final int RUNS = 1500, CALLS = 500;
    private static int wrong = 0;
    private final Random chance;
    private final int run;
    private final SlipperDuke duke = new SlipperDuke();
    private final NaiveDuke naive = new NaiveDuke();
    private int calls = 0;

    private RandomRunsTest(int run) {
        this.run = run;
        this.chance = new Random(7919L * run + 11);
    }

    private int n(int bound) {
        return chance.nextInt(bound);
    }

    private void same(String call, int got, int want) {
        calls++;
        if (got != want) {
            wrong++;
            System.out.println("run " + run + ", call " + calls + ": " + call + " answered " + got + ", due is " + want);
        }
    }

    private String text() {
        StringBuilder t = new StringBuilder("s" + n(n(20) == 0 ? 70 : 64) + ";");
        int rooms = n(8) == 0 ? n(10) : 3 + n(6);
        for (int a = 0; a < rooms; a++) t.append("r" + n(10) + " " + n(2) + ";");
        boolean[] has = new boolean[100];
        for (int d = n(14); d > 0 && rooms > 1; d--) {
            int a = n(rooms), b = n(rooms);
            boolean faulty = a == b || has[10 * a + b] || has[10 * b + a];
            if (!faulty || n(60) == 0) t.append("d" + a + " " + b + ";");
            has[10 * a + b] = true;
        }
        for (int p = n(7) + (n(30) == 0 ? 1 : 0); p > 0 && rooms > 0; p--) t.append("p" + n(rooms) + " " + n(100) + ";");
        return n(4) == 0 ? spoilt(t) : t.toString();
    }

    private String spoilt(StringBuilder t) {
        String signs = " ;;srdp00123456789x\t";
        for (int k = 1 + n(3); k > 0; k--) {
            int at = n(t.length() + 1);
            int how = n(4);
            if (how == 0) t.insert(at, signs.charAt(n(signs.length())));
            if (how == 1 && at < t.length()) t.deleteCharAt(at);
            if (how == 2 && at < t.length()) t.setCharAt(at, signs.charAt(n(signs.length())));
            if (how == 3) t.insert(at, ' ');
        }
        if (n(12) == 0) t.setLength(n(t.length() + 1));
        return t.toString();
    }

    private void palace() {
        String text = text();
        for (int i = 0; i < text.length(); i++) {
            same("feed", duke.feed(text.charAt(i)), naive.feed(text.charAt(i)));
        }
        same("palace of " + text, duke.palace(), naive.palace());
        same("fault", duke.fault(), naive.fault());
        all();
    }

    /** Every question about what is so; calls beyond the 512th are not promised, so it is asked seldom. */
    private void all() {
        if (calls > CALLS - 120) return;
        for (int what = 0; what < 16; what++) same("told " + what, duke.told(what), naive.told(what));
        for (int a = 0; a < 8; a++) {
            for (int what = 0; what < 5; what++) same("room " + a + " " + what, duke.room(a, what), naive.room(a, what));
        }
        for (int p = 0; p < 6; p++) same("petition " + p, duke.petition(p, 2), naive.petition(p, 2));
        for (int i = 0; i < 16; i++) same("went " + i, duke.went(i), naive.went(i));
    }

    private int aRoom() {
        int rooms = naive.now.noise.length;
        return n(25) == 0 || rooms == 0 ? n(12) - 2 : n(rooms);
    }

    private int hours(int most) {
        return n(25) == 0 ? (n(2) == 0 ? most + n(2) : n(2) - 1) : 1 + n(n(2) == 0 ? 4 : most);
    }

    private int toldWay() {
        if (n(4) == 0) return n(12) == 0 ? chance.nextInt() : n(100000);
        NaiveDuke.World w = naive.now.copy();
        int way = 0;
        w.rule = n(2) == 0 ? n(64) : w.rule;
        for (int k = n(9); k > 0 && w.noise.length > 0; k--) { w.hour(); way = 10 * way + w.at + 1; }
        return way;
    }

    private void doSomething() {
        int a = aRoom(), k = n(12);
        boolean is = n(2) == 0;
        switch (k) {
            case 0, 1 -> { int m = hours(60); same("hour " + m, duke.hour(m), naive.hour(m)); }
            case 2 -> same("carpet " + a, duke.carpet(a, is), naive.carpet(a, is));
            case 3 -> { int m = n(20) == 0 ? n(14) - 2 : n(10); same("noise " + a + " " + m, duke.noise(a, m), naive.noise(a, m)); }
            case 4 -> { boolean lies = n(3) == 0; same("nail " + a, duke.nail(a, lies), naive.nail(a, lies)); }
            case 5 -> { int d = n(14) - 1; boolean shut = n(3) == 0; same("brick " + d, duke.brick(d, shut), naive.brick(d, shut)); }
            case 6 -> { int p = n(8) - 1; same("chalk " + p + " " + a, duke.chalk(p, a), naive.chalk(p, a)); }
            case 7 -> { if (n(3) == 0) same("sole", duke.sole(), naive.sole()); }
            case 8 -> { int r = n(66) - 1; same("teach " + r, duke.teach(r), naive.teach(r)); }
            case 9 -> { int m = hours(60); same("drift " + m, duke.drift(m), naive.drift(m)); }
            case 10 -> same("undo", duke.undo(), naive.undo());
            default -> { int m = 1 + n(3); same("hour " + m, duke.hour(m), naive.hour(m)); }
        }
    }

    private void trySomething() {
        int a = aRoom(), m = hours(100);
        switch (n(11)) {
            case 0 -> same("where " + m, duke.where(m), naive.where(m));
            case 1 -> same("when " + a, duke.when(a), naive.when(a));
            case 2 -> same("governed " + a + " " + m, duke.governed(a, m), naive.governed(a, m));
            case 3 -> same("ring", duke.ring(), naive.ring());
            case 4 -> { int c = n(23) - 1; same("carpets " + a + " " + c, duke.carpets(a, c), naive.carpets(a, c)); }
            case 5 -> same("bricks " + a, duke.bricks(a), naive.bricks(a));
            case 6 -> same("quietest " + a, duke.quietest(a), naive.quietest(a));
            case 7 -> same("stand", duke.stand(), naive.stand());
            case 8 -> same("willHear " + m, duke.willHear(m), naive.willHear(m));
            case 9 -> same("told", duke.told(n(1) + 5), naive.told(5));
            default -> { int h = n(63) - 1, q = n(104) - 1; same("dance " + h + " " + q, duke.dance(h, q), naive.dance(h, q)); }
        }
    }

    private void askRules() {
        int a = aRoom();
        switch (n(11)) {
            case 0, 1 -> { int i = n(3) == 0 ? NaiveDuke.NONE : n(70) - 3; same("fit " + i, duke.fit(i), naive.fit(i)); }
            case 2, 3 -> same("tells", duke.tells(), naive.tells());
            case 4, 5 -> { int way = toldWay(); same("teachFor " + way, duke.teachFor(way), naive.teachFor(way)); }
            case 6 -> { int r = n(66) - 1; same("otherwise " + r, duke.otherwise(r), naive.otherwise(r)); }
            case 7, 8 -> {
                int often = naive.noRoom(a) || n(4) == 0 ? n(5) - 1 : naive.now.governed[a];
                same("write " + a + " " + often, duke.write(a, often), naive.write(a, often));
            }
            case 9 -> { if (n(8) == 0) same("tear", duke.tear(), naive.tear()); }
            default -> same("judge", duke.judge(), naive.judge());
        }
    }

    private void drawOrKeep() {
        int i = n(4) - 1;
        switch (n(6)) {
            case 0 -> { int v = n(8) == 0 ? chance.nextInt() : n(1000); same("seed " + v, duke.seed(v), naive.seed(v)); }
            case 1 -> same("keep " + i, duke.keep(i), naive.keep(i));
            case 2 -> same("goBack " + i, duke.goBack(i), naive.goBack(i));
            default -> { int what = n(18) - 1; same("told " + what, duke.told(what), naive.told(what)); }
        }
    }

    private void go() {
        if (n(6) > 0) palace();
        while (calls < CALLS) {
            int k = n(40);
            if (k < 20) doSomething();
            else if (k < 29) trySomething();
            else if (k < 36) askRules();
            else if (k < 38) drawOrKeep();
            else if (n(9) == 0 && calls < CALLS - 250) palace();
            if (n(40) == 0) all();
        }
    }

    public static void main(String[] args) {
        for (int run = 1; run <= RUNS; run++) new RandomRunsTest(run).go();
        System.out.println(wrong == 0 ? "all answers are alike" : wrong + " answers are not alike");
        if (wrong != 0) System.exit(1);
    }
}
