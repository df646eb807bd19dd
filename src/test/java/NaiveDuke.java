import java.util.ArrayDeque;
import java.util.ArrayList;
import java.util.Deque;
import java.util.HashMap;
import java.util.HashSet;
import java.util.List;
import java.util.Map;
import java.util.Set;

/** The document once more, in the plainest way that the Java library allows: RandomRunsTest compares with it. */
final class NaiveDuke {
    static final int NONE = -1, UNKNOWN = -1000000001, OUTSIDE = -1000000002, NOT = -1000000003, FULL = -1000000004;

    /** One whole state; every hour of the way holds a whole state too. */
    static final class World {
        boolean palace;
        int rule, hours, at, wear, worth;
        int[] noise = {}, governed = {}, chalk = {}, value = {};
        boolean[] carpet = {}, nail = {}, heard = {}, bricked = {};
        int[][] doors = {};
        List<Went> way = new ArrayList<>();

        World copy() {
            World w = new World();
            w.palace = palace; w.rule = rule; w.hours = hours; w.at = at; w.wear = wear; w.worth = worth;
            w.noise = noise.clone(); w.governed = governed.clone(); w.chalk = chalk.clone(); w.value = value.clone();
            w.carpet = carpet.clone(); w.nail = nail.clone(); w.heard = heard.clone(); w.bricked = bricked.clone();
            w.doors = doors; w.way = new ArrayList<>(way);
            return w;
        }

        int pull(int r, int a) {
            int q = r / 16, s = (r / 4) % 4, n = r % 4;
            int p = q * noise[a];
            if (wear >= 50) p = p + p;
            if (!carpet[a]) p += s * 3;
            return p + n * Math.min(9, governed[a]);
        }

        int goal(int r) {
            int best = at;
            for (int b = noise.length - 1; b >= 0; b--) {
                if (open(at, b) && !nail[b] && (best == at || pull(r, b) <= pull(r, best))) best = b;
            }
            return best;
        }

        boolean open(int a, int b) {
            for (int d = 0; d < doors.length; d++) {
                boolean joins = doors[d][0] == a && doors[d][1] == b || doors[d][0] == b && doors[d][1] == a;
                if (joins && !bricked[d]) return true;
            }
            return false;
        }

        void hour() {
            governed[at]++;
            for (int p = 0; p < chalk.length; p++) {
                if (chalk[p] == at && !heard[p]) { heard[p] = true; worth = Math.min(999999, worth + value[p]); }
            }
            int to = goal(rule);
            hours++;
            if (to == at) return;
            World then = copy();
            then.way.clear();
            way.add(new Went(then, at, to));
            if (way.size() > 16) way.remove(0);
            at = to;
            wear = Math.min(999, wear + 1);
        }

        World after(int n) { World w = copy(); for (int i = 0; i < n; i++) w.hour(); return w; }
    }

    record Went(World then, int from, int to) { }
    record Token(char kind, int at, String figures) { }
    record Kept(World world, long seed) { }

    StringBuilder text = new StringBuilder();
    int fault = NONE;
    World now = new World();
    Deque<World> undo = new ArrayDeque<>();
    Map<Integer, Kept> images = new HashMap<>();
    List<int[]> book = new ArrayList<>();
    long seed = 0;

    int feed(int letter) {
        if (letter < 0 || letter > 255) return OUTSIDE;
        if (text.length() == 240) return FULL;
        text.append((char) letter);
        return text.length();
    }

    // Tokens have all their faults at their first letters, so the first faulty token has the first fault.
    private List<Token> tokens(String t) {
        List<Token> all = new ArrayList<>();
        int i = 0;
        while (i < t.length()) {
            char c = t.charAt(i);
            int j = i + 1;
            if (c >= '0' && c <= '9') {
                while (j < t.length() && t.charAt(j) >= '0' && t.charAt(j) <= '9') j++;
                all.add(new Token('#', i, t.substring(i, j)));
            } else if (c != ' ') {
                all.add(new Token(c == '#' ? '?' : c, i, ""));
            }
            i = j;
        }
        all.add(new Token('$', t.length(), ""));
        return all;
    }

    int palace() {
        String t = text.toString();
        text.setLength(0);
        List<Token> all = tokens(t);
        List<int[]> rooms = new ArrayList<>(), doors = new ArrayList<>(), petitions = new ArrayList<>();
        int rule = NONE, i = 0;
        int bad = 0;
        while (bad == 0 && !(all.get(i).kind() == '$' && (rule != NONE || all.size() == 1))) {
            char word = all.get(i).kind();
            if ("srdp".indexOf(word) < 0 || rule == NONE && word != 's') { bad = 1; break; }
            int there = word == 'r' ? rooms.size() : word == 'd' ? doors.size() : word == 'p' ? petitions.size() : rule == NONE ? 0 : 1;
            int most = word == 'r' ? 8 : word == 'd' ? 12 : word == 'p' ? 6 : 1;
            if (there >= most) { bad = 3; break; }
            int[] tops = word == 's' ? new int[] {63} : word == 'r' ? new int[] {9, 1}
                : word == 'd' ? new int[] {rooms.size() - 1, rooms.size() - 1} : new int[] {rooms.size() - 1, 99};
            int[] got = new int[2];
            for (int k = 0; k < tops.length && bad == 0; k++) {
                Token n = all.get(++i);
                if (n.kind() != '#') { bad = 1; break; }
                if (n.figures().length() > 3 || Integer.parseInt(n.figures()) > tops[k]) { bad = 2; break; }
                got[k] = Integer.parseInt(n.figures());
                if (word == 'd' && k == 1) {
                    if (got[0] == got[1]) bad = 4;
                    for (int[] d : doors) {
                        if (Set.of(d[0], d[1]).equals(new HashSet<>(List.of(got[0], got[1])))) bad = 4;
                    }
                }
            }
            if (bad != 0) break;
            if (all.get(++i).kind() != ';') { bad = 1; break; }
            i++;
            if (word == 's') rule = got[0];
            if (word == 'r') rooms.add(got);
            if (word == 'd') doors.add(got);
            if (word == 'p') petitions.add(got);
        }
        if (bad != 0) { fault = all.get(i).at(); return -10 - bad; }
        fault = NONE;
        found(rule, rooms, doors, petitions);
        return rooms.size();
    }

    private void found(int rule, List<int[]> rooms, List<int[]> doors, List<int[]> petitions) {
        now = new World();
        now.palace = rule != NONE;
        now.rule = rule;
        now.noise = new int[rooms.size()];
        now.governed = new int[rooms.size()];
        now.carpet = new boolean[rooms.size()];
        now.nail = new boolean[rooms.size()];
        for (int a = 0; a < rooms.size(); a++) { now.noise[a] = rooms.get(a)[0]; now.carpet[a] = rooms.get(a)[1] == 1; }
        now.doors = doors.toArray(new int[0][]);
        now.bricked = new boolean[doors.size()];
        now.chalk = new int[petitions.size()];
        now.value = new int[petitions.size()];
        now.heard = new boolean[petitions.size()];
        for (int p = 0; p < petitions.size(); p++) { now.chalk[p] = petitions.get(p)[0]; now.value[p] = petitions.get(p)[1]; }
        undo.clear();
        images.clear();
        book.clear();
    }

    int fault() { return fault; }

    static int set(boolean[] is) {
        int s = 0;
        for (int k = 0; k < is.length; k++) if (is[k]) s += 1 << k;
        return s;
    }

    int told(int what) {
        int[] all = {now.noise.length, now.doors.length, now.chalk.length, text.length(), now.palace ? now.rule : NONE,
            now.hours, now.noise.length == 0 ? NONE : now.at, now.wear, set(now.carpet), set(now.nail), set(now.bricked),
            set(now.heard), now.worth, now.way.size(), book.size(), undo.size()};
        return what < 0 || what >= all.length ? OUTSIDE : all[what];
    }

    boolean noRoom(int a) { return a < 0 || a >= now.noise.length; }

    int room(int a, int what) {
        if (noRoom(a)) return UNKNOWN;
        boolean[] beside = new boolean[now.noise.length];
        for (int b = 0; b < beside.length; b++) beside[b] = now.open(a, b);
        int[] all = {now.noise[a], now.governed[a], now.pull(now.rule, a), set(beside), now.nail[a] ? 1 : 0};
        return what < 0 || what >= all.length ? OUTSIDE : all[what];
    }

    int petition(int p, int what) {
        if (p < 0 || p >= now.chalk.length) return UNKNOWN;
        int[] all = {now.chalk[p], now.value[p], now.heard[p] ? 1 : 0};
        return what < 0 || what >= all.length ? OUTSIDE : all[what];
    }

    int went(int i) {
        if (i < 0 || i >= now.way.size()) return NONE;
        Went w = now.way.get(now.way.size() - 1 - i);
        return 10 * w.from() + w.to();
    }

    private void remember() {
        undo.addLast(now.copy());
        if (undo.size() > 16) undo.removeFirst();
    }

    private int refusal(int n) {
        return n < 1 || n > 60 ? OUTSIDE : now.noise.length == 0 ? NOT : now.hours > 9000 ? FULL : 0;
    }

    int hour(int n) {
        if (refusal(n) != 0) return refusal(n);
        remember();
        now = now.after(n);
        return now.at;
    }

    private int flip(boolean[] row, int k, boolean is) {
        if (k < 0 || k >= row.length) return UNKNOWN;
        remember();
        int was = row[k] ? 1 : 0;
        row[k] = is;
        return was;
    }

    int carpet(int a, boolean is) { return flip(now.carpet, a, is); }
    int nail(int a, boolean is) { return flip(now.nail, a, is); }
    int brick(int d, boolean is) { return flip(now.bricked, d, is); }

    int noise(int a, int n) {
        if (noRoom(a)) return UNKNOWN;
        if (n < 0 || n > 9) return OUTSIDE;
        remember();
        int was = now.noise[a];
        now.noise[a] = n;
        return was;
    }

    int chalk(int p, int a) {
        if (p < 0 || p >= now.chalk.length || noRoom(a)) return UNKNOWN;
        remember();
        int was = now.chalk[p];
        now.chalk[p] = a;
        now.heard[p] = false;
        return was;
    }

    int sole() {
        if (!now.palace) return NOT;
        remember();
        int was = now.wear;
        now.wear = 0;
        return was;
    }

    int teach(int r) {
        if (r < 0 || r > 63) return UNKNOWN;
        if (!now.palace) return NOT;
        remember();
        int was = now.rule;
        now.rule = r;
        return was;
    }

    private int draw(int n) {
        seed = (seed * 1103515245L + 12345L) % (1L << 31);
        return (int) (seed / 65536 % n);
    }

    int drift(int n) {
        if (refusal(n) != 0) return refusal(n);
        remember();
        for (int i = 0; i < n; i++) {
            int a = draw(now.noise.length), what = draw(5);
            if (what == 0) now.carpet[a] = true;
            if (what == 1) now.carpet[a] = false;
            if (what == 2) now.noise[a] = draw(10);
            if (what == 3) now.nail[a] = true;
            if (what == 4) now.nail[a] = false;
            now.hour();
        }
        return now.at;
    }

    int undo() {
        if (undo.isEmpty()) return NOT;
        now = undo.removeLast();
        return undo.size();
    }

    int where(int n) { return n < 0 || n > 100 ? OUTSIDE : now.noise.length == 0 ? NOT : now.after(n).at; }

    int when(int a) {
        if (noRoom(a)) return UNKNOWN;
        World w = now.copy();
        for (int i = 0; i <= 100; i++) {
            if (w.at == a) return i;
            w.hour();
        }
        return NONE;
    }

    int governed(int a, int n) {
        return noRoom(a) ? UNKNOWN : n < 1 || n > 100 ? OUTSIDE : now.after(n).governed[a] - now.governed[a];
    }

    int ring() {
        if (now.noise.length == 0) return NOT;
        World w = now.copy();
        boolean left = false;
        for (int i = 1; i <= 100; i++) {
            w.hour();
            left |= w.at != now.at;
            if (left && w.at == now.at) return i;
        }
        return NONE;
    }

    int carpets(int a, int n) {
        if (noRoom(a)) return UNKNOWN;
        if (n < 0 || n > 20) return OUTSIDE;
        for (int size = 0; size <= now.noise.length; size++) {
            for (int s = 0; s < 1 << now.noise.length; s++) {
                if (Integer.bitCount(s) != size) continue;
                World w = now.copy();
                for (int k = 0; k < w.carpet.length; k++) w.carpet[k] ^= (s >> k & 1) == 1;
                boolean came = w.at == a;
                for (int i = 0; i < n; i++) { w.hour(); came |= w.at == a; }
                if (came) return s;
            }
        }
        return NONE;
    }

    private boolean leads(World w, int a, Set<Integer> seen, int from) {
        if (from == a) return true;
        seen.add(from);
        for (int b = 0; b < w.noise.length; b++) {
            if (w.open(from, b) && !w.nail[b] && !seen.contains(b) && leads(w, a, seen, b)) return true;
        }
        return false;
    }

    int bricks(int a) {
        if (noRoom(a)) return UNKNOWN;
        if (a == now.at) return NONE;
        for (int size = 0; size <= now.doors.length; size++) {
            for (int s = 0; s < 1 << now.doors.length; s++) {
                if (Integer.bitCount(s) != size || (s & set(now.bricked)) != 0) continue;
                World w = now.copy();
                for (int d = 0; d < w.bricked.length; d++) w.bricked[d] |= (s >> d & 1) == 1;
                if (!leads(w, a, new HashSet<>(), w.at)) return s;
            }
        }
        throw new IllegalStateException("all doors bricked bar every way");
    }

    int quietest(int a) { return noRoom(a) ? UNKNOWN : quietest(a, now.at, new HashSet<>()); }

    private int quietest(int a, int from, Set<Integer> gone) {
        if (from == a) return 0;
        int best = NONE;
        gone.add(from);
        for (int b = 0; b < now.noise.length; b++) {
            if (!now.open(from, b) || now.nail[b] || gone.contains(b)) continue;
            int rest = quietest(a, b, gone);
            if (rest != NONE && (best == NONE || rest + now.noise[b] < best)) best = rest + now.noise[b];
        }
        gone.remove(from);
        return best;
    }

    int stand() {
        if (now.noise.length == 0) return NOT;
        for (int i = 0; i < 100; i++) if (now.after(i).at != now.at) return now.after(i).at;
        return NONE;
    }

    int willHear(int n) { return n < 1 || n > 100 ? OUTSIDE : now.noise.length == 0 ? NOT : now.after(n).worth - now.worth; }

    int dance(int n, int q) {
        if (n < 0 || n > 60 || q < 0 || q > 100) return OUTSIDE;
        long odds = 1000000000L;
        while (n-- > 0) odds = odds * (100 - q) / 100;
        return (int) odds;
    }

    private List<Integer> fits() {
        List<Integer> all = new ArrayList<>();
        for (int r = 0; r < 64; r++) {
            boolean fits = true;
            for (Went w : now.way) fits &= w.then().goal(r) == w.to();
            if (fits) all.add(r);
        }
        return all;
    }

    int fit(int i) {
        List<Integer> all = fits();
        return i == NONE ? all.size() : i < 0 || i >= all.size() ? NONE : all.get(i);
    }

    int tells() {
        List<Integer> all = fits();
        int best = NONE, least = all.size();
        for (int a = 0; a < now.noise.length; a++) {
            Map<Integer, Integer> parts = new HashMap<>();
            for (int r : all) {
                World w = now.copy();
                w.carpet[a] = !w.carpet[a];
                w.rule = r;
                w.hour();
                parts.merge(w.at, 1, Integer::sum);
            }
            int greatest = parts.values().stream().mapToInt(x -> x).max().orElse(0);
            if (greatest < least) { least = greatest; best = a; }
        }
        return best;
    }

    int teachFor(int way) {
        if (way < 0) return OUTSIDE;
        String figures = way == 0 ? "" : Integer.toString(way);
        if (figures.length() > 8) return OUTSIDE;
        for (char c : figures.toCharArray()) if (noRoom(c - '1')) return OUTSIDE;
        if (now.noise.length == 0) return NOT;
        int best = NONE;
        for (int r = 63; r >= 0; r--) {
            World w = now.copy();
            w.rule = r;
            boolean goes = true;
            for (char c : figures.toCharArray()) { w.hour(); goes &= w.at == c - '1'; }
            if (goes && (best == NONE || far(r) <= far(best))) best = r;
        }
        return best;
    }

    private int far(int r) {
        int far = 0;
        for (int k = 0; k < 3; k++) far += Math.abs((r >> 2 * k & 3) - (now.rule >> 2 * k & 3));
        return far;
    }

    int otherwise(int r) {
        if (r < 0 || r > 63) return UNKNOWN;
        if (now.noise.length == 0) return NOT;
        World he = now.copy(), footman = now.copy();
        footman.rule = r;
        for (int i = 1; i <= 100; i++) {
            he.hour();
            footman.hour();
            if (he.at != footman.at) return i;
        }
        return NONE;
    }

    int write(int a, int often) {
        if (noRoom(a)) return UNKNOWN;
        if (often < 0 || often > 9999) return OUTSIDE;
        if (book.size() == 15) return FULL;
        book.add(new int[] {a, often});
        return book.size();
    }

    int tear() { int had = book.size(); book.clear(); return had; }

    int judge() {
        for (int[] entry : book) if (now.governed[entry[0]] != entry[1]) return book.indexOf(entry);
        return NONE;
    }

    int seed(int v) {
        if (v < 0) return OUTSIDE;
        int was = (int) seed;
        seed = v;
        return was;
    }

    int keep(int i) {
        if (i != 0 && i != 1) return UNKNOWN;
        images.put(i, new Kept(now.copy(), seed));
        undo.clear();
        return 1;
    }

    int goBack(int i) {
        if (i != 0 && i != 1) return UNKNOWN;
        if (!images.containsKey(i)) return NOT;
        now = images.get(i).world().copy();
        seed = images.get(i).seed();
        undo.clear();
        return 1;
    }
}
