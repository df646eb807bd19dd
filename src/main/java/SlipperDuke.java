import java.util.Arrays;

/** A blind duke whom his slippers lead through a palace: what is told, done, tried and found out of it. */
public final class SlipperDuke {
    public static final int NONE = -1, UNKNOWN = -1000000001, OUTSIDE = -1000000002, NOT = -1000000003, FULL = -1000000004;

    private static final int BILLION = 1000000000;
    private static final int MOST_LETTERS = 240, MOST_ROOMS = 8, MOST_DOORS = 12, MOST_PETITIONS = 6;
    private static final int RULES = 64, MOST_NOISE = 9, MOST_WORTH = 99;
    private static final int MOST_WEAR = 999, WORN = 50, MOST_OFTEN_FELT = 9, MOST_WORTH_HEARD = 999999;
    private static final int MOST_AT_ONCE = 60, LAST_FULL_HOUR = 9000;
    private static final int MOST_TRIED = 100, MOST_CARPET_HOURS = 20, MOST_DANCE_HOURS = 60;
    private static final int LONGEST_WAY_TOLD = 99999999, FIRST_FIGURE = 10000000;
    private static final int WAY_HOURS = 16, MOST_UNDONE = 16, IMAGES = 2;
    private static final int MOST_ENTRIES = 15, MOST_WRITTEN = 9999;

    private final Text text = new Text();
    private Palace plan = new Palace();
    private final State now = new State();
    private final Past past = new Past();
    private final Image[] images = new Image[IMAGES];
    private final Book book = new Book();
    private int theSeed;
    // These are used again by every call that tries something, so that no call makes objects.
    private final Slippers tried = new Slippers();
    private final Slippers pair = new Slippers();
    private final int[] scratch = new int[MOST_ROOMS];

    public SlipperDuke() {
        for (int i = 0; i < IMAGES; i++) {
            images[i] = new Image();
        }
    }

    // ---- the palace

    public int feed(int letter) {
        if (letter < 0 || letter > 255) {
            return OUTSIDE;
        }
        if (text.length >= MOST_LETTERS) {
            return FULL;
        }
        text.add(letter);
        return text.length;
    }

    public int palace() {
        text.read();
        text.length = 0;
        if (text.faultNumber != 0) {
            return -10 - text.faultNumber;
        }
        Palace former = plan;
        plan = text.draft;
        text.draft = former;
        now.begin(plan);
        past.forget();
        book.count = 0;
        for (int i = 0; i < IMAGES; i++) {
            images[i].kept = false;
        }
        return plan.rooms;
    }

    public int fault() {
        return text.faultAt;
    }

    public int told(int what) {
        switch (what) {
            case 0: return plan.rooms;
            case 1: return plan.doors;
            case 2: return plan.petitions;
            case 3: return text.length;
            case 4: return plan.stands ? now.slippers.rule : NONE;
            case 5: return now.hours;
            case 6: return plan.rooms > 0 ? now.slippers.at : NONE;
            case 7: return now.slippers.wear;
            case 8: return now.slippers.carpetSet;
            case 9: return now.slippers.nailSet;
            case 10: return now.brickSet;
            case 11: return now.heardSet;
            case 12: return now.worthHeard;
            case 13: return now.way.count;
            case 14: return book.count;
            case 15: return past.count;
            default: return OUTSIDE;
        }
    }

    public int room(int a, int what) {
        if (isNoRoom(a)) {
            return UNKNOWN;
        }
        switch (what) {
            case 0: return packedAt(now.slippers.noises, a);
            case 1: return now.governedOften[a];
            case 2: return now.slippers.pullNow(a);
            case 3: return now.slippers.beside[a];
            case 4: return bit(now.slippers.nailSet, a);
            default: return OUTSIDE;
        }
    }

    public int petition(int p, int what) {
        if (isNoPetition(p)) {
            return UNKNOWN;
        }
        switch (what) {
            case 0: return now.chalkedIn[p];
            case 1: return plan.worth[p];
            case 2: return bit(now.heardSet, p);
            default: return OUTSIDE;
        }
    }

    public int went(int i) {
        if (i < 0 || i >= now.way.count) {
            return NONE;
        }
        return now.way.fromAndTo(i);
    }

    // ---- what is done

    public int hour(int n) {
        int refusal = refusalOfHours(n);
        if (refusal != 0) {
            return refusal;
        }
        past.remember(now);
        for (int i = 0; i < n; i++) {
            now.passHour(plan);
        }
        return now.slippers.at;
    }

    public int carpet(int a, boolean is) {
        if (isNoRoom(a)) {
            return UNKNOWN;
        }
        past.remember(now);
        int was = bit(now.slippers.carpetSet, a);
        now.slippers.carpetSet = withBit(now.slippers.carpetSet, a, is);
        return was;
    }

    public int noise(int a, int n) {
        if (isNoRoom(a)) {
            return UNKNOWN;
        }
        if (n < 0 || n > MOST_NOISE) {
            return OUTSIDE;
        }
        past.remember(now);
        int was = packedAt(now.slippers.noises, a);
        now.slippers.noises = withPacked(now.slippers.noises, a, n);
        return was;
    }

    public int nail(int a, boolean is) {
        if (isNoRoom(a)) {
            return UNKNOWN;
        }
        past.remember(now);
        int was = bit(now.slippers.nailSet, a);
        now.slippers.nailSet = withBit(now.slippers.nailSet, a, is);
        return was;
    }

    public int brick(int d, boolean is) {
        if (d < 0 || d >= plan.doors) {
            return UNKNOWN;
        }
        past.remember(now);
        int was = bit(now.brickSet, d);
        now.brickSet = withBit(now.brickSet, d, is);
        now.slippers.openDoor(plan.doorFrom[d], plan.doorTo[d], !is);
        return was;
    }

    public int chalk(int p, int a) {
        if (isNoPetition(p) || isNoRoom(a)) {
            return UNKNOWN;
        }
        past.remember(now);
        int was = now.chalkedIn[p];
        now.chalkedIn[p] = a;
        now.heardSet = withBit(now.heardSet, p, false);
        return was;
    }

    public int sole() {
        if (!plan.stands) {
            return NOT;
        }
        past.remember(now);
        int was = now.slippers.wear;
        now.slippers.wear = 0;
        return was;
    }

    public int teach(int r) {
        if (isNoRule(r)) {
            return UNKNOWN;
        }
        if (!plan.stands) {
            return NOT;
        }
        past.remember(now);
        int was = now.slippers.rule;
        now.slippers.rule = r;
        return was;
    }

    public int drift(int n) {
        int refusal = refusalOfHours(n);
        if (refusal != 0) {
            return refusal;
        }
        past.remember(now);
        for (int i = 0; i < n; i++) {
            changeByDraws();
            now.passHour(plan);
        }
        return now.slippers.at;
    }

    public int undo() {
        if (past.count == 0) {
            return NOT;
        }
        past.giveBack(now);
        return past.count;
    }

    // ---- tried

    public int where(int n) {
        if (n < 0 || n > MOST_TRIED) {
            return OUTSIDE;
        }
        if (plan.rooms == 0) {
            return NOT;
        }
        tried.copyFrom(now.slippers);
        for (int i = 0; i < n; i++) {
            tried.tryHour();
        }
        return tried.at;
    }

    public int when(int a) {
        if (isNoRoom(a)) {
            return UNKNOWN;
        }
        tried.copyFrom(now.slippers);
        return hoursUntil(a, MOST_TRIED);
    }

    public int governed(int a, int n) {
        if (isNoRoom(a)) {
            return UNKNOWN;
        }
        if (n < 1 || n > MOST_TRIED) {
            return OUTSIDE;
        }
        tried.copyFrom(now.slippers);
        int often = 0;
        for (int i = 0; i < n; i++) {
            if (tried.at == a) {
                often++;
            }
            tried.tryHour();
        }
        return often;
    }

    public int ring() {
        if (plan.rooms == 0) {
            return NOT;
        }
        tried.copyFrom(now.slippers);
        boolean wasElsewhere = false;
        for (int i = 1; i <= MOST_TRIED; i++) {
            tried.tryHour();
            if (tried.at != now.slippers.at) {
                wasElsewhere = true;
            } else if (wasElsewhere) {
                return i;
            }
        }
        return NONE;
    }

    public int carpets(int a, int n) {
        if (isNoRoom(a)) {
            return UNKNOWN;
        }
        if (n < 0 || n > MOST_CARPET_HOURS) {
            return OUTSIDE;
        }
        int best = NONE;
        for (int set = 0; set < 1 << plan.rooms; set++) {
            if (isBetterSet(set, best)) {
                tried.copyFrom(now.slippers);
                tried.carpetSet ^= set;
                if (hoursUntil(a, n) != NONE) {
                    best = set;
                }
            }
        }
        return best;
    }

    public int bricks(int a) {
        if (isNoRoom(a)) {
            return UNKNOWN;
        }
        int at = now.slippers.at;
        if (a == at) {
            return NONE;
        }
        int passable = doorsToPass();
        int best = NONE;
        // The fewest doors that bar a way are those between the rooms that he can still reach and all others.
        for (int side = 0; side < 1 << plan.rooms; side++) {
            if (bit(side, at) == 1 && bit(side, a) == 0) {
                int between = plan.doorsBetween(side) & passable;
                if (isBetterSet(between, best)) {
                    best = between;
                }
            }
        }
        return best;
    }

    public int quietest(int a) {
        if (isNoRoom(a)) {
            return UNKNOWN;
        }
        int[] sums = scratch;
        Arrays.fill(sums, NONE);
        sums[now.slippers.at] = 0;
        // No quietest way enters more rooms than there are, so that many rounds settle all sums.
        for (int round = 0; round < plan.rooms; round++) {
            for (int from = 0; from < plan.rooms; from++) {
                if (sums[from] != NONE) {
                    spreadNoise(sums, from);
                }
            }
        }
        return sums[a];
    }

    public int stand() {
        if (plan.rooms == 0) {
            return NOT;
        }
        tried.copyFrom(now.slippers);
        for (int i = 0; i < MOST_TRIED; i++) {
            if (tried.at != now.slippers.at) {
                return tried.at;
            }
            tried.tryHour();
        }
        return NONE;
    }

    public int willHear(int n) {
        if (n < 1 || n > MOST_TRIED) {
            return OUTSIDE;
        }
        if (plan.rooms == 0) {
            return NOT;
        }
        tried.copyFrom(now.slippers);
        int visited = 0;
        for (int i = 0; i < n; i++) {
            visited |= 1 << tried.at;
            tried.tryHour();
        }
        return worthToHear(visited);
    }

    public int dance(int n, int q) {
        if (n < 0 || n > MOST_DANCE_HOURS || q < 0 || q > 100) {
            return OUTSIDE;
        }
        long odds = BILLION;
        for (int i = 0; i < n; i++) {
            odds = odds * (100 - q) / 100;
        }
        return (int) odds;
    }

    // ---- rules

    public int fit(int i) {
        long fitting = now.way.fittingRules();
        if (i == NONE) {
            return Long.bitCount(fitting);
        }
        int before = 0;
        for (int r = 0; r < RULES; r++) {
            if ((fitting >>> r & 1L) == 1L) {
                if (before == i) {
                    return r;
                }
                before++;
            }
        }
        return NONE;
    }

    public int tells() {
        long fitting = now.way.fittingRules();
        int least = Long.bitCount(fitting);
        int best = NONE;
        for (int a = 0; a < plan.rooms; a++) {
            tried.copyFrom(now.slippers);
            tried.carpetSet ^= 1 << a;
            int part = greatestPart(fitting);
            if (part < least) {
                least = part;
                best = a;
            }
        }
        return best;
    }

    public int teachFor(int way) {
        if (way < 0 || way > LONGEST_WAY_TOLD || !isOfRooms(way)) {
            return OUTSIDE;
        }
        if (plan.rooms == 0) {
            return NOT;
        }
        int best = NONE;
        int least = 0;
        for (int r = 0; r < RULES; r++) {
            int apart = apart(r, now.slippers.rule);
            if ((best == NONE || apart < least) && goesSo(r, way)) {
                best = r;
                least = apart;
            }
        }
        return best;
    }

    public int otherwise(int r) {
        if (isNoRule(r)) {
            return UNKNOWN;
        }
        if (plan.rooms == 0) {
            return NOT;
        }
        tried.copyFrom(now.slippers);
        pair.copyFrom(now.slippers);
        pair.rule = r;
        for (int i = 1; i <= MOST_TRIED; i++) {
            tried.tryHour();
            pair.tryHour();
            if (tried.at != pair.at) {
                return i;
            }
        }
        return NONE;
    }

    public int write(int a, int often) {
        if (isNoRoom(a)) {
            return UNKNOWN;
        }
        if (often < 0 || often > MOST_WRITTEN) {
            return OUTSIDE;
        }
        if (book.count >= MOST_ENTRIES) {
            return FULL;
        }
        book.add(a, often);
        return book.count;
    }

    public int tear() {
        int had = book.count;
        book.count = 0;
        return had;
    }

    public int judge() {
        return book.firstWrong(now.governedOften);
    }

    // ---- draws, images

    public int seed(int v) {
        if (v < 0) {
            return OUTSIDE;
        }
        int was = theSeed;
        theSeed = v;
        return was;
    }

    public int keep(int i) {
        if (i < 0 || i >= IMAGES) {
            return UNKNOWN;
        }
        Image image = images[i];
        image.kept = true;
        image.seedKept = theSeed;
        image.state.copyFrom(now);
        past.forget();
        return 1;
    }

    public int goBack(int i) {
        if (i < 0 || i >= IMAGES) {
            return UNKNOWN;
        }
        Image image = images[i];
        if (!image.kept) {
            return NOT;
        }
        theSeed = image.seedKept;
        now.copyFrom(image.state);
        past.forget();
        return 1;
    }

    // ---- what the calls share

    private boolean isNoRoom(int a) {
        return a < 0 || a >= plan.rooms;
    }

    private boolean isNoPetition(int p) {
        return p < 0 || p >= plan.petitions;
    }

    private static boolean isNoRule(int r) {
        return r < 0 || r >= RULES;
    }

    /** The refusal of n hours that shall pass, or 0. */
    private int refusalOfHours(int n) {
        if (n < 1 || n > MOST_AT_ONCE) {
            return OUTSIDE;
        }
        if (plan.rooms == 0) {
            return NOT;
        }
        return now.hours > LAST_FULL_HOUR ? FULL : 0;
    }

    private int draw(int n) {
        theSeed = (int) (theSeed * 1103515245L + 12345L & 0x7fffffffL);
        return n > 0 ? theSeed / 65536 % n : 0;
    }

    private void changeByDraws() {
        Slippers slippers = now.slippers;
        int a = draw(plan.rooms);
        switch (draw(5)) {
            case 0:
                slippers.carpetSet = withBit(slippers.carpetSet, a, true);
                break;
            case 1:
                slippers.carpetSet = withBit(slippers.carpetSet, a, false);
                break;
            case 2:
                slippers.noises = withPacked(slippers.noises, a, draw(10));
                break;
            case 3:
                slippers.nailSet = withBit(slippers.nailSet, a, true);
                break;
            default:
                slippers.nailSet = withBit(slippers.nailSet, a, false);
                break;
        }
    }

    /** Behind how many hours the tried pair is in a room first; NONE, if not within the most. */
    private int hoursUntil(int a, int most) {
        for (int i = 0; i < most; i++) {
            if (tried.at == a) {
                return i;
            }
            tried.tryHour();
        }
        return tried.at == a ? most : NONE;
    }

    /** Sets are asked about in any order: fewer are better, and of as many the least number. */
    private static boolean isBetterSet(int set, int best) {
        if (best == NONE) {
            return true;
        }
        int count = Integer.bitCount(set);
        int bestCount = Integer.bitCount(best);
        return count < bestCount || count == bestCount && set < best;
    }

    /** The doors through which a way from where he is may lead; a nail where he is keeps nobody from leaving. */
    private int doorsToPass() {
        int shut = now.slippers.nailSet & ~(1 << now.slippers.at);
        int doors = 0;
        for (int d = 0; d < plan.doors; d++) {
            int ends = 1 << plan.doorFrom[d] | 1 << plan.doorTo[d];
            if (bit(now.brickSet, d) == 0 && (ends & shut) == 0) {
                doors |= 1 << d;
            }
        }
        return doors;
    }

    private void spreadNoise(int[] sums, int from) {
        int next = now.slippers.beside[from] & ~now.slippers.nailSet;
        for (int to = 0; to < plan.rooms; to++) {
            int sum = sums[from] + packedAt(now.slippers.noises, to);
            if (bit(next, to) == 1 && (sums[to] == NONE || sum < sums[to])) {
                sums[to] = sum;
            }
        }
    }

    private int worthToHear(int visited) {
        int worth = 0;
        for (int p = 0; p < plan.petitions; p++) {
            if (bit(now.heardSet, p) == 0 && bit(visited, now.chalkedIn[p]) == 1) {
                worth += plan.worth[p];
            }
        }
        return worth;
    }

    /** How many of these rules lead the tried pair to the same room next, at most. */
    private int greatestPart(long rules) {
        int[] parts = scratch;
        Arrays.fill(parts, 0);
        int greatest = 0;
        for (int r = 0; r < RULES; r++) {
            if ((rules >>> r & 1L) == 1L) {
                int to = tried.nextBy(r);
                parts[to]++;
                greatest = Math.max(greatest, parts[to]);
            }
        }
        return greatest;
    }

    private boolean isOfRooms(int way) {
        for (int rest = way; rest > 0; rest /= 10) {
            int figure = rest % 10;
            if (figure == 0 || figure > plan.rooms) {
                return false;
            }
        }
        return true;
    }

    private boolean goesSo(int rule, int way) {
        tried.copyFrom(now.slippers);
        tried.rule = rule;
        for (int unit = FIRST_FIGURE; unit > 0; unit /= 10) {
            int begun = way / unit;
            if (begun > 0) {
                tried.tryHour();
                if (tried.at + 1 != begun % 10) {
                    return false;
                }
            }
        }
        return true;
    }

    private static int apart(int r, int other) {
        return Math.abs(quietOf(r) - quietOf(other)) + Math.abs(softOf(r) - softOf(other)) + Math.abs(newOf(r) - newOf(other));
    }

    private static int quietOf(int rule) {
        return rule / 16;
    }

    private static int softOf(int rule) {
        return rule / 4 % 4;
    }

    private static int newOf(int rule) {
        return rule % 4;
    }

    private static int bit(int set, int k) {
        return set >> k & 1;
    }

    private static int withBit(int set, int k, boolean is) {
        return is ? set | 1 << k : set & ~(1 << k);
    }

    /** Figures 0 to 9 of up to eight rooms are packed in one number, four bits each: that keeps copies small. */
    private static int packedAt(int packed, int a) {
        return packed >>> 4 * a & 15;
    }

    private static int withPacked(int packed, int a, int figure) {
        return packed & ~(15 << 4 * a) | figure << 4 * a;
    }

    /** What the text tells once for all: where doors are, what petitions are worth, and how all begins. */
    private static final class Palace {
        boolean stands;
        int rule;
        int rooms;
        int doors;
        int petitions;
        int noises;
        int carpetSet;
        final int[] doorFrom = new int[MOST_DOORS];
        final int[] doorTo = new int[MOST_DOORS];
        final int[] chalkedFirst = new int[MOST_PETITIONS];
        final int[] worth = new int[MOST_PETITIONS];

        void clear() {
            stands = false;
            rule = 0;
            rooms = 0;
            doors = 0;
            petitions = 0;
            noises = 0;
            carpetSet = 0;
        }

        void addRoom(int noiseThere, int carpetThere) {
            noises = withPacked(noises, rooms, noiseThere);
            carpetSet = withBit(carpetSet, rooms, carpetThere == 1);
            rooms++;
        }

        void addDoor(int a, int b) {
            doorFrom[doors] = a;
            doorTo[doors] = b;
            doors++;
        }

        void addPetition(int a, int worthOfIt) {
            chalkedFirst[petitions] = a;
            worth[petitions] = worthOfIt;
            petitions++;
        }

        boolean hasDoor(int a, int b) {
            for (int d = 0; d < doors; d++) {
                if (doorFrom[d] == a && doorTo[d] == b || doorFrom[d] == b && doorTo[d] == a) {
                    return true;
                }
            }
            return false;
        }

        /** The doors that lead out of a set of rooms. */
        int doorsBetween(int side) {
            int set = 0;
            for (int d = 0; d < doors; d++) {
                if (bit(side, doorFrom[d]) != bit(side, doorTo[d])) {
                    set |= 1 << d;
                }
            }
            return set;
        }
    }

    /** Letters that came, read up to their first fault into a draft: a palace that stands is not touched by a fault. */
    private static final class Text {
        int length;
        int faultNumber;
        int faultAt = NONE;
        Palace draft = new Palace();
        private final int[] letters = new int[MOST_LETTERS];
        private int next;
        private int numberAt;

        void add(int letter) {
            if (length < MOST_LETTERS) {
                letters[length] = letter;
                length++;
            }
        }

        void read() {
            next = 0;
            faultNumber = 0;
            faultAt = NONE;
            draft.clear();
            skipBlanks();
            for (int clause = 0; clause < MOST_LETTERS && next < length && faultNumber == 0; clause++) {
                readClause();
                skipBlanks();
            }
        }

        private void readClause() {
            int word = letters[next];
            if (!draft.stands && word != 's') {
                noteFault(1, next);
                return;
            }
            switch (word) {
                case 's':
                    readRule();
                    break;
                case 'r':
                    readRoom();
                    break;
                case 'd':
                    readDoor();
                    break;
                case 'p':
                    readPetition();
                    break;
                default:
                    noteFault(1, next);
                    break;
            }
        }

        private void readRule() {
            readWord(draft.stands);
            int rule = readNumber(RULES - 1);
            readEnd();
            if (faultNumber == 0) {
                draft.rule = rule;
                draft.stands = true;
            }
        }

        private void readRoom() {
            readWord(draft.rooms >= MOST_ROOMS);
            int noiseThere = readNumber(MOST_NOISE);
            int carpetThere = readNumber(1);
            readEnd();
            if (faultNumber == 0) {
                draft.addRoom(noiseThere, carpetThere);
            }
        }

        private void readDoor() {
            readWord(draft.doors >= MOST_DOORS);
            int a = readNumber(draft.rooms - 1);
            int b = readNumber(draft.rooms - 1);
            if (faultNumber == 0 && (a == b || draft.hasDoor(a, b))) {
                noteFault(4, numberAt);
            }
            readEnd();
            if (faultNumber == 0) {
                draft.addDoor(a, b);
            }
        }

        private void readPetition() {
            readWord(draft.petitions >= MOST_PETITIONS);
            int a = readNumber(draft.rooms - 1);
            int worthOfIt = readNumber(MOST_WORTH);
            readEnd();
            if (faultNumber == 0) {
                draft.addPetition(a, worthOfIt);
            }
        }

        private void readWord(boolean isOneTooMany) {
            if (isOneTooMany) {
                noteFault(3, next);
            }
            next++;
        }

        /** A number from 0 to the most; behind a fault nothing more is read. */
        private int readNumber(int most) {
            if (faultNumber != 0) {
                return 0;
            }
            skipBlanks();
            numberAt = next;
            int number = 0;
            while (next < length && letters[next] >= '0' && letters[next] <= '9') {
                // Beyond three figures the number is a fault anyway, and must not run over.
                number = next - numberAt < 3 ? number * 10 + letters[next] - '0' : number;
                next++;
            }
            int figures = next - numberAt;
            if (figures == 0) {
                noteFault(1, next);
            } else if (figures > 3 || number > most) {
                noteFault(2, numberAt);
            }
            return number;
        }

        private void readEnd() {
            if (faultNumber != 0) {
                return;
            }
            skipBlanks();
            if (next >= length || letters[next] != ';') {
                noteFault(1, next);
            }
            next++;
        }

        private void skipBlanks() {
            while (next < length && letters[next] == ' ') {
                next++;
            }
        }

        private void noteFault(int number, int at) {
            faultNumber = number;
            faultAt = at;
        }
    }

    /** All by which it is settled where he goes: what is tried needs a copy of no more than this. */
    private static final class Slippers {
        int rule;
        int at;
        int wear;
        int noises;
        /** How often rooms were governed, packed, as far as slippers feel it. */
        int often;
        int carpetSet;
        int nailSet;
        /** For each room the set of rooms beside it by doors that are not bricked. */
        final int[] beside = new int[MOST_ROOMS];

        void begin(Palace plan) {
            rule = plan.rule;
            at = 0;
            wear = 0;
            noises = plan.noises;
            often = 0;
            carpetSet = plan.carpetSet;
            nailSet = 0;
            Arrays.fill(beside, 0);
            for (int d = 0; d < plan.doors; d++) {
                openDoor(plan.doorFrom[d], plan.doorTo[d], true);
            }
        }

        void copyFrom(Slippers other) {
            rule = other.rule;
            at = other.at;
            wear = other.wear;
            noises = other.noises;
            often = other.often;
            carpetSet = other.carpetSet;
            nailSet = other.nailSet;
            System.arraycopy(other.beside, 0, beside, 0, MOST_ROOMS);
        }

        void openDoor(int a, int b, boolean is) {
            beside[a] = withBit(beside[a], b, is);
            beside[b] = withBit(beside[b], a, is);
        }

        boolean isWorn() {
            return wear >= WORN;
        }

        int roomsAhead() {
            return beside[at] & ~nailSet;
        }

        int pullNow(int a) {
            return pullOf(rule, a, noises, carpetSet, often, isWorn());
        }

        int nextBy(int anyRule) {
            int to = liked(anyRule, roomsAhead(), noises, carpetSet, often, isWorn());
            return to == NONE ? at : to;
        }

        void feelGoverned() {
            int felt = packedAt(often, at);
            if (felt < MOST_OFTEN_FELT) {
                often = withPacked(often, at, felt + 1);
            }
        }

        void stepTo(int to) {
            if (to != at) {
                at = to;
                wear = Math.min(MOST_WEAR, wear + 1);
            }
        }

        void tryHour() {
            feelGoverned();
            stepTo(nextBy(rule));
        }

        static int pullOf(int rule, int a, int noises, int carpetSet, int often, boolean isWorn) {
            int loud = quietOf(rule) * packedAt(noises, a);
            int hard = bit(carpetSet, a) == 1 ? 0 : softOf(rule) * 3;
            int known = newOf(rule) * packedAt(often, a);
            return (isWorn ? loud * 2 : loud) + hard + known;
        }

        /** Of a set of rooms that with least pull; NONE, if the set is empty. */
        static int liked(int rule, int rooms, int noises, int carpetSet, int often, boolean isWorn) {
            int best = NONE;
            int least = 0;
            for (int a = 0; a < MOST_ROOMS; a++) {
                if (bit(rooms, a) == 1) {
                    int pull = pullOf(rule, a, noises, carpetSet, often, isWorn);
                    if (best == NONE || pull < least) {
                        best = a;
                        least = pull;
                    }
                }
            }
            return best;
        }
    }

    /** The latest hours in which he went, with all by which the slippers chose; the oldest give their place. */
    private static final class Way {
        int count;
        private int free;
        private final int[] fromTo = new int[WAY_HOURS];
        /** Sets side by side: from bit 0 the rooms he could go to, from bit 8 carpets; bit 16, if the pair was worn. */
        private final int[] sets = new int[WAY_HOURS];
        private final int[] noises = new int[WAY_HOURS];
        private final int[] often = new int[WAY_HOURS];

        void clear() {
            count = 0;
            free = 0;
        }

        void copyFrom(Way other) {
            count = other.count;
            free = other.free;
            System.arraycopy(other.fromTo, 0, fromTo, 0, WAY_HOURS);
            System.arraycopy(other.sets, 0, sets, 0, WAY_HOURS);
            System.arraycopy(other.noises, 0, noises, 0, WAY_HOURS);
            System.arraycopy(other.often, 0, often, 0, WAY_HOURS);
        }

        void add(Slippers slippers, int to) {
            fromTo[free] = slippers.at * 10 + to;
            sets[free] = slippers.roomsAhead() | slippers.carpetSet << 8 | (slippers.isWorn() ? 1 << 16 : 0);
            noises[free] = slippers.noises;
            often[free] = slippers.often;
            free = (free + 1) % WAY_HOURS;
            count = Math.min(WAY_HOURS, count + 1);
        }

        /** Of an hour, 0 the latest, that the way has. */
        int fromAndTo(int i) {
            return fromTo[(free + WAY_HOURS - 1 - i) % WAY_HOURS];
        }

        long fittingRules() {
            long fitting = 0L;
            for (int r = 0; r < RULES; r++) {
                if (isFitting(r)) {
                    fitting |= 1L << r;
                }
            }
            return fitting;
        }

        private boolean isFitting(int rule) {
            // Places are filled from 0 on, so the first ones are those in use, in whatever order.
            for (int k = 0; k < count; k++) {
                int to = Slippers.liked(rule, sets[k] & 255, noises[k], sets[k] >> 8 & 255, often[k], bit(sets[k], 16) == 1);
                if (to != fromTo[k] % 10) {
                    return false;
                }
            }
            return true;
        }
    }

    /** All that hours and what is done change: this is what is undone and what images keep. */
    private static final class State {
        final Slippers slippers = new Slippers();
        final Way way = new Way();
        int hours;
        int brickSet;
        int heardSet;
        int worthHeard;
        final int[] governedOften = new int[MOST_ROOMS];
        final int[] chalkedIn = new int[MOST_PETITIONS];

        void begin(Palace plan) {
            slippers.begin(plan);
            way.clear();
            hours = 0;
            brickSet = 0;
            heardSet = 0;
            worthHeard = 0;
            Arrays.fill(governedOften, 0);
            System.arraycopy(plan.chalkedFirst, 0, chalkedIn, 0, MOST_PETITIONS);
        }

        void copyFrom(State other) {
            slippers.copyFrom(other.slippers);
            way.copyFrom(other.way);
            hours = other.hours;
            brickSet = other.brickSet;
            heardSet = other.heardSet;
            worthHeard = other.worthHeard;
            System.arraycopy(other.governedOften, 0, governedOften, 0, MOST_ROOMS);
            System.arraycopy(other.chalkedIn, 0, chalkedIn, 0, MOST_PETITIONS);
        }

        void passHour(Palace plan) {
            governedOften[slippers.at]++;
            slippers.feelGoverned();
            hearAll(plan);
            int to = slippers.nextBy(slippers.rule);
            if (to != slippers.at) {
                way.add(slippers, to);
                slippers.stepTo(to);
            }
            hours++;
        }

        private void hearAll(Palace plan) {
            for (int p = 0; p < plan.petitions; p++) {
                if (chalkedIn[p] == slippers.at && bit(heardSet, p) == 0) {
                    heardSet = withBit(heardSet, p, true);
                    worthHeard = Math.min(MOST_WORTH_HEARD, worthHeard + plan.worth[p]);
                }
            }
        }
    }

    /** States as they were ahead of what can be undone; the oldest give their place. */
    private static final class Past {
        int count;
        private int free;
        private final State[] states = new State[MOST_UNDONE];

        Past() {
            for (int i = 0; i < MOST_UNDONE; i++) {
                states[i] = new State();
            }
        }

        void forget() {
            count = 0;
        }

        void remember(State state) {
            states[free].copyFrom(state);
            free = (free + 1) % MOST_UNDONE;
            count = Math.min(MOST_UNDONE, count + 1);
        }

        void giveBack(State state) {
            if (count > 0) {
                free = (free + MOST_UNDONE - 1) % MOST_UNDONE;
                count--;
                state.copyFrom(states[free]);
            }
        }
    }

    private static final class Image {
        boolean kept;
        int seedKept;
        final State state = new State();
    }

    /** Days as somebody wrote them down: how often rooms were governed. */
    private static final class Book {
        int count;
        private final int[] roomsWritten = new int[MOST_ENTRIES];
        private final int[] oftenWritten = new int[MOST_ENTRIES];

        void add(int a, int often) {
            if (count < MOST_ENTRIES) {
                roomsWritten[count] = a;
                oftenWritten[count] = often;
                count++;
            }
        }

        int firstWrong(int[] governedOften) {
            for (int i = 0; i < count; i++) {
                if (governedOften[roomsWritten[i]] != oftenWritten[i]) {
                    return i;
                }
            }
            return NONE;
        }
    }
}
