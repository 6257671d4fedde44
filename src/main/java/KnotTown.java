import java.util.Arrays;

/** A town of one road or two that go over and under themselves and each other, as DOC.md tells it. */
public final class KnotTown {
    public static final int NONE = -1;

    private static final int ROADS = 2;
    private static final int BRIDGES = 11;
    private static final int PLACES = 2 * BRIDGES;
    private static final int ENDS = 2 * PLACES;
    private static final int TAPE_BYTES = 400;
    private static final int FED = 20;
    private static final int RULES = 6;
    private static final int IMAGES = 4;
    private static final int MINUTES = 60;
    private static final int FLOODS = 20;
    private static final int NOT_THERE = -2;
    private static final int UNKNOWN = -3;
    private static final int NO_MARK = -1000;

    private final Tape tape = new Tape();
    private final Stand now = new Stand();
    private final Stand[] images = new Stand[IMAGES];
    private final Town told = new Town();
    private final Land ground = new Land();
    private final Search search = new Search();
    private final Bracket bracket = new Bracket();
    private final Bows bows = new Bows();
    private final Gossip talk = new Gossip();
    private final RuleText ruleText = new RuleText();
    private final Rule[] rules = new Rule[RULES];
    private int ruleCount;

    public KnotTown() {
        for (int k = 0; k < IMAGES; k++) {
            images[k] = new Stand();
        }
    }

    public int feed(int a, int b, int c, int d, int e) {
        if (tape.length + FED > TAPE_BYTES) {
            return NONE;
        }
        tape.put(a);
        tape.put(b);
        tape.put(c);
        tape.put(d);
        tape.put(e);
        return tape.length;
    }

    public int end(int n) {
        if (n < 0 || n > tape.length) {
            return NONE;
        }
        tape.length = n;
        return n;
    }

    public int town() {
        TownText.read(tape, told, ground);
        tape.length = 0;
        if (tape.fault != 0) {
            return -2 - tape.fault;
        }
        now.town.copyFrom(told);
        now.moves = 0;
        forget();
        return now.town.bridges();
    }

    public int rule() {
        if (ruleCount >= RULES) {
            return NONE;
        }
        Rule made = ruleText.read(tape);
        tape.length = 0;
        if (made == null) {
            return -2 - tape.fault;
        }
        rules[ruleCount] = made;
        ruleCount++;
        return ruleCount - 1;
    }

    public int force(int rule) {
        if (rule < NONE || rule >= ruleCount) {
            return -2;
        }
        int was = now.inForce;
        now.inForce = rule;
        return was;
    }

    public int place(int place, int what) {
        Town town = now.town;
        if (!town.hasPlace(place)) {
            return NONE;
        }
        switch (what) {
            case 0:
                return town.pass[place] >> 1;
            case 1:
                return town.pass[place] & 1;
            case 2:
                return town.roadOf(place);
            case 3:
                return town.next[place];
            case 4:
                bows.find(town);
                return bows.of[place];
            default:
                return NONE;
        }
    }

    public int bridge(int bridge, int what) {
        Town town = now.town;
        if (!town.has(bridge)) {
            return NONE;
        }
        switch (what) {
            case 0:
                return town.hand[bridge];
            case 1:
                return town.overAt(bridge);
            case 2:
                return town.underAt(bridge);
            default:
                return NONE;
        }
    }

    public int land(int what) {
        if (now.town.roads == 0) {
            return NONE;
        }
        ground.survey(now.town);
        switch (what) {
            case 0:
                return ground.pieces;
            case 1:
                return ground.most;
            case 2:
                return ground.twos;
            case 3:
                return ground.threes;
            default:
                return NONE;
        }
    }

    public boolean off(int bridge) {
        return now.town.has(bridge) && moveBy(Land.offKey(bridge));
    }

    public boolean apart(int one, int other) {
        return now.town.has(one) && now.town.has(other) && moveBy(Land.apartKey(one, other));
    }

    public boolean slide(int one, int two, int three) {
        return now.town.has(one) && now.town.has(two) && now.town.has(three)
                && moveBy(Land.slideKey(one, two, three));
    }

    public int change(int bridge) {
        Town town = now.town;
        if (!town.has(bridge)) {
            return NONE;
        }
        town.flip(bridge);
        town.settle();
        forget();
        return town.hand[bridge];
    }

    public int twist(int place, boolean overFirst, boolean plus) {
        Town town = now.town;
        int bridge = town.leastFree();
        if (!town.hasPlace(place) || bridge >= BRIDGES) {
            return NONE;
        }
        town.hand[bridge] = plus ? 1 : 0;
        town.insert(place, 2 * bridge + (overFirst ? 1 : 0));
        town.settle();
        forget();
        return bridge;
    }

    public int mirror() {
        Town town = now.town;
        if (town.roads == 0) {
            return NONE;
        }
        for (int bridge = 0; bridge < BRIDGES; bridge++) {
            if (town.has(bridge)) {
                town.flip(bridge);
            }
        }
        town.settle();
        forget();
        return town.bridges();
    }

    public int backToFront(int road) {
        Town town = now.town;
        if (road < 0 || road >= town.roads) {
            return NONE;
        }
        town.reverse(road);
        town.settle();
        forget();
        return town.roadEnd(road) - town.roadStart(road);
    }

    public int can(int kind) {
        if (now.town.roads == 0 || kind < Land.OFF || kind > Land.SLIDE) {
            return NONE;
        }
        ground.survey(now.town);
        return ground.movesOfKind(kind);
    }

    public int writhe() {
        return now.town.roads == 0 ? NO_MARK : now.town.handsTogether();
    }

    public int linked() {
        return now.town.roads < 2 ? NO_MARK : now.town.sharedHands() / 2;
    }

    public long colours(int p) {
        boolean known = p == 3 || p == 5 || p == 7 || p == 11 || p == 13;
        if (!known || now.town.roads == 0) {
            return NONE;
        }
        return bows.ways(now.town, p);
    }

    public long determinant() {
        return now.town.roads == 0 ? NONE : bows.minor(now.town);
    }

    public int polynomial(int what, int power) {
        if (now.town.roads == 0 || what < 0 || what > 1) {
            return 0;
        }
        bracket.prepare(now.town);
        return what == 0 ? bracket.numberAt(power) : bracket.jonesAt(power, now.town.handsTogether());
    }

    public int shaken() {
        return now.town.roads == 0 ? NONE : search.fewestMoves(now.town);
    }

    public int row(int k, int what) {
        if (now.town.roads == 0 || k < 0 || what < 0 || what > 3) {
            return NONE;
        }
        int moves = search.fewestMoves(now.town);
        if (moves < 0) {
            return moves;
        }
        return k >= moves ? NOT_THERE : Land.partOfMove(search.moveOfRow(k), what);
    }

    public int changes(int what) {
        Town town = now.town;
        if (town.roads == 0 || what < 0 || what > 1 || town.bridges() > Search.CHANGED) {
            return NONE;
        }
        int set = search.fewestChanges(town);
        if (set < 0) {
            return NOT_THERE;
        }
        return what == 0 ? Integer.bitCount(set) : set;
    }

    public int gossip(int piece, int n) {
        if (!now.town.hasPlace(piece) || n < 0 || n > MINUTES) {
            return NONE;
        }
        return talk.spread(now.town, ruleInForce(), piece, n);
    }

    public int heard(int piece, int other) {
        if (!now.town.hasPlace(piece) || !now.town.hasPlace(other)) {
            return NONE;
        }
        return talk.minuteOf(now.town, ruleInForce(), piece, other);
    }

    public int seed(int x) {
        if (x < 0) {
            return NONE;
        }
        int was = now.x;
        now.x = x;
        return was;
    }

    public int floods(int m, int p, int from, int to) {
        Town town = now.town;
        if (m < 1 || m > FLOODS || p < 0 || p > 100 || !town.hasPlace(from) || !town.hasPlace(to)) {
            return NONE;
        }
        if (town.roadOf(from) != town.roadOf(to)) {
            return NONE;
        }
        int x = now.x;
        int often = 0;
        for (int time = 0; time < m; time++) {
            int flooded = 0;
            for (int bridge = 0; bridge < BRIDGES; bridge++) {
                if (town.has(bridge)) {
                    x = drawnAfter(x);
                    flooded |= x / 65536 % 100 < p ? 1 << bridge : 0;
                }
            }
            often += town.getsAlong(from, to, flooded) || town.getsAlong(to, from, flooded) ? 1 : 0;
        }
        return often;
    }

    public int count(int what) {
        Town town = now.town;
        switch (what) {
            case 0:
                return town.roads;
            case 1:
                return town.bridges();
            case 2:
                return town.total;
            case 3:
                return town.plusHands();
            case 4:
                return now.moves;
            case 5:
                bows.find(town);
                return bows.bows;
            case 6:
                return ruleCount;
            case 7:
                return now.inForce;
            case 8:
                return now.x;
            case 9:
                return tape.length;
            case 10:
                return town.groups();
            default:
                return NONE;
        }
    }

    public int image(int k) {
        if (k < 0 || k >= IMAGES) {
            return NONE;
        }
        images[k].copyFrom(now);
        images[k].made = true;
        return now.moves;
    }

    public int back(int k) {
        if (k < 0 || k >= IMAGES || !images[k].made) {
            return NONE;
        }
        now.copyFrom(images[k]);
        forget();
        return now.moves;
    }

    private boolean moveBy(int key) {
        ground.survey(now.town);
        int found = ground.indexOfMove(key);
        if (found < 0) {
            return false;
        }
        ground.perform(now.town, found);
        now.town.settle();
        now.moves++;
        forget();
        return true;
    }

    // What was worked out for the town as it was is not asked of it again.
    private void forget() {
        search.forget();
        bracket.known = false;
    }

    private Rule ruleInForce() {
        int rule = now.inForce;
        return rule >= 0 && rule < ruleCount ? rules[rule] : null;
    }

    private static int drawnAfter(int x) {
        return (int) (x * 1103515245L + 12345L & 2147483647L);
    }

    /** The text that is fed, and how far it is read. */
    private static final class Tape {
        static final int DIGITS = 5;

        final byte[] bytes = new byte[TAPE_BYTES];
        int length;
        int at;
        int fault;

        void put(int number) {
            for (int shift = 24; shift >= 0; shift -= 8) {
                if (length < TAPE_BYTES) {
                    bytes[length] = (byte) (number >> shift);
                    length++;
                }
            }
        }

        void rewind() {
            at = 0;
            fault = 0;
        }

        boolean atEnd() {
            return at >= length;
        }

        /** Only the first fault along the text is told. */
        void fail(int kind) {
            if (fault == 0) {
                fault = 1 + 8 * at + kind;
            }
        }

        /** The byte that comes next, behind blanks; NONE at the end. */
        int look() {
            while (at < length && bytes[at] == ' ') {
                at++;
            }
            return at < length ? bytes[at] & 255 : NONE;
        }

        boolean takeSign(char sign) {
            if (look() != sign) {
                return false;
            }
            at++;
            return true;
        }

        /** A word goes on as far as small letters do, so a longer one is another one. */
        boolean seesWord(String word) {
            look();
            int run = 0;
            boolean same = true;
            while (at + run < length && bytes[at + run] >= 'a' && bytes[at + run] <= 'z') {
                same = same && run < word.length() && bytes[at + run] == word.charAt(run);
                run++;
            }
            return same && run == word.length();
        }

        boolean takeWord(String word) {
            if (!seesWord(word)) {
                return false;
            }
            at += word.length();
            return true;
        }

        boolean seesNumber() {
            int sign = look();
            return sign >= '0' && sign <= '9';
        }

        /** The number that stands here, which stays unread; a fault if there is none that may be. */
        int seenNumber(int most) {
            if (!seesNumber()) {
                fail(0);
                return NONE;
            }
            int digits = digitsHere();
            int value = 0;
            for (int i = at; i < at + digits && i < at + DIGITS && i < length; i++) {
                value = 10 * value + bytes[i] - '0';
            }
            if (digits > DIGITS || value > most) {
                fail(1);
                return NONE;
            }
            return value;
        }

        void skipNumber() {
            at += digitsHere();
        }

        private int digitsHere() {
            int run = 0;
            while (at + run < length && bytes[at + run] >= '0' && bytes[at + run] <= '9') {
                run++;
            }
            return run;
        }
    }

    /** One or two roads with their PASSES, and what follows from them. */
    private static final class Town {
        int roads;
        int first;
        int total;
        int present;
        /** By PLACES: twice the BRIDGE, and 1 if over it. */
        final int[] pass = new int[PLACES];
        final int[] hand = new int[BRIDGES];
        final int[] next = new int[PLACES];
        final int[] prev = new int[PLACES];
        /** The PLACE of each PASS, as told in pass. */
        final int[] at = new int[PLACES];

        Town() {
            Arrays.fill(at, NONE);
        }

        void clear() {
            roads = 0;
            first = 0;
            total = 0;
            settle();
        }

        void copyFrom(Town other) {
            roads = other.roads;
            first = other.first;
            total = other.total;
            System.arraycopy(other.pass, 0, pass, 0, PLACES);
            System.arraycopy(other.hand, 0, hand, 0, BRIDGES);
            settle();
        }

        /** What follows from the PASSES is made anew: to be called when they have changed. */
        void settle() {
            Arrays.fill(at, NONE);
            present = 0;
            for (int place = 0; place < total; place++) {
                at[pass[place]] = place;
                present |= 1 << (pass[place] >> 1);
                next[place] = place + 1;
                prev[place] = place - 1;
            }
            comeHome(0, first);
            comeHome(first, total);
        }

        private void comeHome(int start, int end) {
            if (start < end) {
                next[end - 1] = start;
                prev[start] = end - 1;
            }
        }

        boolean hasPlace(int place) {
            return place >= 0 && place < total;
        }

        boolean has(int bridge) {
            return bridge >= 0 && bridge < BRIDGES && at[2 * bridge] >= 0 && at[2 * bridge + 1] >= 0;
        }

        int bridges() {
            return Integer.bitCount(present);
        }

        int overAt(int bridge) {
            return at[2 * bridge + 1];
        }

        int underAt(int bridge) {
            return at[2 * bridge];
        }

        int roadOf(int place) {
            return place < first ? 0 : 1;
        }

        int roadStart(int road) {
            return road == 0 ? 0 : first;
        }

        int roadEnd(int road) {
            return road == 0 ? first : total;
        }

        /** BRIDGES that a road meets, as bits. */
        int met(int road) {
            int bits = 0;
            for (int place = roadStart(road); place < roadEnd(road); place++) {
                bits |= 1 << (pass[place] >> 1);
            }
            return bits;
        }

        /** All BRIDGES of one road hang together, so only two roads can make two groups. */
        int groups() {
            int one = met(0);
            int other = met(1);
            if (one == 0 || other == 0) {
                return one == other ? 0 : 1;
            }
            return (one & other) == 0 ? 2 : 1;
        }

        int plusHands() {
            return handsOf(present);
        }

        int handsTogether() {
            return 2 * plusHands() - bridges();
        }

        int sharedHands() {
            int shared = met(0) & met(1);
            return 2 * handsOf(shared) - Integer.bitCount(shared);
        }

        private int handsOf(int set) {
            int plus = 0;
            for (int bridge = 0; bridge < BRIDGES; bridge++) {
                plus += (set >> bridge & 1) == 1 ? hand[bridge] : 0;
            }
            return plus;
        }

        int leastFree() {
            return Integer.numberOfTrailingZeros(~present);
        }

        void append(int code) {
            if (total < PLACES) {
                pass[total] = code;
                total++;
            }
        }

        void flip(int bridge) {
            if (has(bridge)) {
                int over = overAt(bridge);
                int under = underAt(bridge);
                pass[over] = 2 * bridge;
                pass[under] = 2 * bridge + 1;
                at[2 * bridge] = over;
                at[2 * bridge + 1] = under;
                hand[bridge] = 1 - hand[bridge];
            }
        }

        void insert(int place, int code) {
            if (total + 2 > PLACES) {
                return;
            }
            for (int i = total - 1; i > place; i--) {
                pass[i + 2] = pass[i];
            }
            pass[place + 1] = code;
            pass[place + 2] = code ^ 1;
            first += roadOf(place) == 0 ? 2 : 0;
            total += 2;
        }

        void reverse(int road) {
            int shared = met(0) & met(1);
            for (int i = roadStart(road), j = roadEnd(road) - 1; i < j; i++, j--) {
                int held = pass[i];
                pass[i] = pass[j];
                pass[j] = held;
            }
            for (int bridge = 0; bridge < BRIDGES; bridge++) {
                if ((shared >> bridge & 1) == 1) {
                    hand[bridge] = 1 - hand[bridge];
                }
            }
        }

        void drop(int set) {
            int kept = 0;
            int keptOfFirst = 0;
            for (int place = 0; place < total; place++) {
                if ((set >> (pass[place] >> 1) & 1) == 0) {
                    pass[kept] = pass[place];
                    kept++;
                    keptOfFirst += place < first ? 1 : 0;
                }
            }
            first = keptOfFirst;
            total = kept;
        }

        /** The PASSES at the two ends of a PIECE change PLACES. */
        void swapAlong(int piece) {
            if (!hasPlace(piece)) {
                return;
            }
            int ahead = next[piece];
            int held = pass[piece];
            pass[piece] = pass[ahead];
            pass[ahead] = held;
        }

        boolean getsAlong(int from, int to, int flooded) {
            int piece = from;
            for (int step = 0; step < PLACES && piece != to; step++) {
                int code = pass[next[piece]];
                if ((code & 1) == 0 && (flooded >> (code >> 1) & 1) == 1) {
                    return false;
                }
                piece = next[piece];
            }
            return piece == to;
        }
    }

    /** All that an IMAGE holds. */
    private static final class Stand {
        final Town town = new Town();
        int moves;
        int inForce = NONE;
        int x;
        boolean made;

        void copyFrom(Stand other) {
            town.copyFrom(other.town);
            moves = other.moves;
            inForce = other.inForce;
            x = other.x;
        }
    }

    /** Reads a TOWN from the tape. */
    private static final class TownText {
        static void read(Tape tape, Town town, Land land) {
            town.clear();
            tape.rewind();
            boolean more = true;
            for (int i = 0; i <= ROADS && more; i++) {
                readRoad(tape, town);
                more = tape.fault == 0 && tape.takeSign(';');
            }
            if (!tape.atEnd()) {
                tape.fail(0);
            }
            if (tape.fault != 0) {
                return;
            }
            town.settle();
            if (town.total != 2 * town.bridges()) {
                tape.fail(6);
                return;
            }
            land.survey(town);
            if (land.pieces != town.bridges() + 2 * town.groups()) {
                tape.fail(7);
            }
        }

        private static void readRoad(Tape tape, Town town) {
            if (!tape.seesWord("road")) {
                tape.fail(0);
                return;
            }
            if (town.roads == ROADS) {
                tape.fail(4);
                return;
            }
            tape.takeWord("road");
            town.roads++;
            boolean more = true;
            for (int i = 0; i <= PLACES && more; i++) {
                more = readPass(tape, town) && tape.fault == 0;
            }
            if (town.roads == 1) {
                town.first = town.total;
            }
        }

        private static boolean readPass(Tape tape, Town town) {
            boolean over = tape.takeWord("o");
            if (!over && !tape.takeWord("u")) {
                return false;
            }
            int bridge = tape.seenNumber(BRIDGES - 1);
            if (bridge < 0) {
                return true;
            }
            int code = 2 * bridge + (over ? 1 : 0);
            if (isTold(town, code)) {
                tape.fail(5);
                return true;
            }
            tape.skipNumber();
            town.append(code);
            if (over) {
                readHand(tape, town, bridge);
            }
            return true;
        }

        private static boolean isTold(Town town, int code) {
            for (int place = 0; place < town.total; place++) {
                if (town.pass[place] == code) {
                    return true;
                }
            }
            return false;
        }

        private static void readHand(Tape tape, Town town, int bridge) {
            if (tape.takeSign('+')) {
                town.hand[bridge] = 1;
            } else if (tape.takeSign('-')) {
                town.hand[bridge] = 0;
            } else {
                tape.fail(0);
            }
        }
    }

    /** The pieces of LAND of a town, and the MOVES that could be, in their order. */
    private static final class Land {
        static final int OFF = 1;
        static final int APART = 2;
        static final int SLIDE = 3;

        private static final int LISTED = 48;
        private static final int NO_BRIDGE = 15;

        int pieces;
        int most;
        int twos;
        int threes;
        /** MOVES as keys that stand in the order in which the search takes them. */
        final int[] move = new int[LISTED];
        /** Of a SLIDE the least end of its piece of LAND. */
        final int[] start = new int[LISTED];
        int moves;
        private final int[] turn = new int[ENDS];

        static int offKey(int bridge) {
            return OFF << 12 | bridge << 8 | NO_BRIDGE << 4 | NO_BRIDGE;
        }

        static int apartKey(int one, int other) {
            return APART << 12 | Math.min(one, other) << 8 | Math.max(one, other) << 4 | NO_BRIDGE;
        }

        static int slideKey(int one, int two, int three) {
            int least = Math.min(one, Math.min(two, three));
            int greatest = Math.max(one, Math.max(two, three));
            int middle = one + two + three - least - greatest;
            return SLIDE << 12 | least << 8 | middle << 4 | greatest;
        }

        /** What 0: its kind, 1 to 3: its BRIDGES. */
        static int partOfMove(int key, int what) {
            int part = key >> 4 * (3 - what) & 15;
            return what > 0 && part == NO_BRIDGE ? NONE : part;
        }

        void survey(Town town) {
            pieces = 0;
            most = 0;
            twos = 0;
            threes = 0;
            moves = 0;
            for (int bridge = 0; bridge < BRIDGES; bridge++) {
                if (town.has(bridge)) {
                    lookRound(town, bridge);
                }
            }
            long seen = 0L;
            for (int end = 0; end < 2 * town.total; end++) {
                if ((seen >> end & 1L) == 0L) {
                    long round = roundFrom(end);
                    int size = Long.bitCount(round);
                    seen |= round;
                    pieces++;
                    most = Math.max(most, size);
                    if (size == 2) {
                        twos++;
                        listApart(town, end);
                    } else if (size == 3) {
                        threes++;
                        listSlide(town, end);
                    }
                }
            }
        }

        private void lookRound(Town town, int bridge) {
            int over = town.overAt(bridge);
            int under = town.underAt(bridge);
            int overCome = 2 * town.prev[over] + 1;
            int underCome = 2 * town.prev[under] + 1;
            boolean plus = town.hand[bridge] == 1;
            int second = plus ? 2 * under : underCome;
            int fourth = plus ? underCome : 2 * under;
            turn[2 * over] = second;
            turn[second] = overCome;
            turn[overCome] = fourth;
            turn[fourth] = 2 * over;
            if (town.next[over] == under || town.next[under] == over) {
                list(offKey(bridge), 0);
            }
        }

        private int stepFrom(int end) {
            return turn[end ^ 1];
        }

        /** The ends round one piece of LAND, as bits. */
        private long roundFrom(int from) {
            long round = 0L;
            int end = from;
            for (int i = 0; i < ENDS && (round >> end & 1L) == 0L; i++) {
                round |= 1L << end;
                end = turn[end ^ 1];
            }
            return round;
        }

        private static int bridgeAtEnd(Town town, int end) {
            int piece = end >> 1;
            int place = (end & 1) == 0 ? piece : town.next[piece];
            return town.pass[place] >> 1;
        }

        /** At how many of its two BRIDGES a PIECE is over, of the PIECE of an end. */
        private static int timesOver(Town town, int end) {
            int piece = end >> 1;
            return (town.pass[piece] & 1) + (town.pass[town.next[piece]] & 1);
        }

        private void listApart(Town town, int end) {
            int one = bridgeAtEnd(town, end);
            int other = bridgeAtEnd(town, end ^ 1);
            int times = 1 << timesOver(town, end) | 1 << timesOver(town, stepFrom(end));
            if (one != other && times == 5) {
                list(apartKey(one, other), end);
            }
        }

        private void listSlide(Town town, int end) {
            int second = stepFrom(end);
            int third = stepFrom(second);
            int a = bridgeAtEnd(town, end);
            int b = bridgeAtEnd(town, second);
            int c = bridgeAtEnd(town, third);
            int times = 1 << timesOver(town, end) | 1 << timesOver(town, second) | 1 << timesOver(town, third);
            if (a != b && b != c && a != c && times == 7) {
                list(slideKey(a, b, c), end);
            }
        }

        /** Of the same MOVE the one that came first stays: its piece of LAND has the least end. */
        private void list(int key, int end) {
            if (moves >= LISTED || indexOfMove(key) >= 0) {
                return;
            }
            int to = moves;
            while (to > 0 && move[to - 1] > key) {
                move[to] = move[to - 1];
                start[to] = start[to - 1];
                to--;
            }
            move[to] = key;
            start[to] = end;
            moves++;
        }

        int indexOfMove(int key) {
            for (int k = 0; k < moves; k++) {
                if (move[k] == key) {
                    return k;
                }
            }
            return NONE;
        }

        int movesOfKind(int kind) {
            int found = 0;
            for (int k = 0; k < moves; k++) {
                found += partOfMove(move[k], 0) == kind ? 1 : 0;
            }
            return found;
        }

        /** BRIDGES that go by a MOVE of the list, as bits. */
        int gone(int k) {
            int bits = 0;
            if (k < 0 || k >= moves || partOfMove(move[k], 0) == SLIDE) {
                return bits;
            }
            for (int what = 1; what <= 2; what++) {
                int bridge = partOfMove(move[k], what);
                bits |= bridge < 0 ? 0 : 1 << bridge;
            }
            return bits;
        }

        /** The PASSES are as behind a MOVE of the list; the town is to be settled then. */
        void perform(Town town, int k) {
            if (k < 0 || k >= moves) {
                return;
            }
            if (partOfMove(move[k], 0) != SLIDE) {
                town.drop(gone(k));
                return;
            }
            int second = stepFrom(start[k]);
            town.swapAlong(start[k] >> 1);
            town.swapAlong(second >> 1);
            town.swapAlong(stepFrom(second) >> 1);
        }
    }

    /** SHAKEN OUT and CHANGES: situations as they come one from another. */
    private static final class Search {
        static final int CHANGED = 6;

        private static final int SITUATIONS = 300;
        private static final int SLOTS = 1024;
        private static final int PACKED = 12;

        private final long[] low = new long[SITUATIONS];
        private final long[] high = new long[SITUATIONS];
        private final short[] firstRoad = new short[SITUATIONS];
        private final short[] cameFrom = new short[SITUATIONS];
        private final short[] cameBy = new short[SITUATIONS];
        /** Situations by their hash, 1 more than their number. */
        private final short[] slot = new short[SLOTS];
        private final Town work = new Town();
        private final Town trial = new Town();
        private final Land land = new Land();
        private int size;
        private long packedLow;
        private long packedHigh;
        private int packedFirst;
        private int lastFrom;
        private int lastBy;
        private int moves;
        private boolean movesKnown;
        private int changeSet;
        private boolean changesKnown;

        void forget() {
            movesKnown = false;
            changesKnown = false;
        }

        int fewestMoves(Town town) {
            if (!movesKnown) {
                moves = shake(town);
                movesKnown = true;
            }
            return moves;
        }

        int moveOfRow(int k) {
            int by = lastBy;
            int from = lastFrom;
            for (int i = moves - 1; i > k && from >= 0 && from < size; i--) {
                by = cameBy[from];
                from = cameFrom[from];
            }
            return by;
        }

        /** The least set of the fewest BRIDGES to be changed, as bits; NONE if there is none. */
        int fewestChanges(Town town) {
            int sets = 1 << Math.min(town.bridges(), CHANGED);
            // The situations will be those of other towns.
            movesKnown = movesKnown && changesKnown;
            for (int many = 0; many <= CHANGED && !changesKnown; many++) {
                int set = 0;
                for (int i = 0; i < sets && !changesKnown; i++) {
                    if (Integer.bitCount(set) == many && tryOut(town, set) && shake(trial) >= 0) {
                        changeSet = set;
                        changesKnown = true;
                    }
                    // The next greater set of the BRIDGES that there are.
                    set = set - town.present & town.present;
                }
            }
            if (!changesKnown) {
                changeSet = NONE;
                changesKnown = true;
            }
            return changeSet;
        }

        /** The trial town has these BRIDGES changed; false if it is plain that it can't be shaken out. */
        private boolean tryOut(Town town, int set) {
            trial.copyFrom(town);
            for (int bridge = 0; bridge < BRIDGES; bridge++) {
                if ((set >> bridge & 1) == 1) {
                    trial.flip(bridge);
                }
            }
            // No MOVE changes how two roads are linked, and without BRIDGES they are not.
            return trial.sharedHands() == 0;
        }

        private int shake(Town town) {
            if (town.total == 0) {
                return 0;
            }
            Arrays.fill(slot, (short) 0);
            work.copyFrom(town);
            size = 0;
            pack(0);
            add(freeSlot(), NONE, 0);
            for (int k = 0; k < size && k < SITUATIONS; k++) {
                int found = goOnFrom(k);
                if (found != NOT_THERE) {
                    return found == UNKNOWN ? UNKNOWN : depthOf(lastFrom) + 1;
                }
            }
            return NOT_THERE;
        }

        /** 0 if the situation without BRIDGES came, UNKNOWN if there came too many, else NOT_THERE. */
        private int goOnFrom(int k) {
            unpack(k);
            land.survey(work);
            for (int m = 0; m < land.moves; m++) {
                packBehind(m);
                if (packedLow == 0L) {
                    lastFrom = k;
                    lastBy = land.move[m];
                    return 0;
                }
                int free = freeSlot();
                if (free >= 0 && size >= SITUATIONS) {
                    return UNKNOWN;
                }
                if (free >= 0) {
                    add(free, k, land.move[m]);
                }
            }
            return NOT_THERE;
        }

        private void packBehind(int m) {
            int gone = land.gone(m);
            if (gone != 0) {
                pack(gone);
                return;
            }
            // A SLIDE done twice over the same PIECES is undone.
            land.perform(work, m);
            pack(0);
            land.perform(work, m);
        }

        /** The work town without some BRIDGES, five bits a PASS, none of them 0. */
        private void pack(int without) {
            packedLow = 0L;
            packedHigh = 0L;
            packedFirst = 0;
            int kept = 0;
            for (int place = 0; place < work.total; place++) {
                int code = work.pass[place];
                if ((without >> (code >> 1) & 1) == 0) {
                    if (kept < PACKED) {
                        packedLow |= (code + 1L) << 5 * kept;
                    } else {
                        packedHigh |= (code + 1L) << 5 * (kept - PACKED);
                    }
                    kept++;
                    packedFirst += place < work.first ? 1 : 0;
                }
            }
        }

        private void unpack(int k) {
            work.total = 0;
            for (int i = 0; i < PLACES; i++) {
                long bits = i < PACKED ? low[k] >> 5 * i : high[k] >> 5 * (i - PACKED);
                int code = (int) (bits & 31L) - 1;
                if (code >= 0 && code < PLACES) {
                    work.append(code);
                }
            }
            work.first = firstRoad[k];
            work.settle();
        }

        /** The slot for what is packed; NONE if that came already. */
        private int freeSlot() {
            long mixed = (packedLow * 31L + packedHigh) * 0x9E3779B97F4A7C15L;
            int at = (int) (mixed >>> 54) & SLOTS - 1;
            for (int i = 0; i < SLOTS && slot[at] > 0; i++) {
                int k = slot[at] - 1;
                if (k < size && low[k] == packedLow && high[k] == packedHigh) {
                    return NONE;
                }
                at = at + 1 & SLOTS - 1;
            }
            return at;
        }

        private void add(int at, int from, int by) {
            if (at < 0 || size >= SITUATIONS) {
                return;
            }
            low[size] = packedLow;
            high[size] = packedHigh;
            firstRoad[size] = (short) packedFirst;
            cameFrom[size] = (short) from;
            cameBy[size] = (short) by;
            size++;
            slot[at] = (short) size;
        }

        private int depthOf(int k) {
            int depth = 0;
            int from = k;
            for (int i = 0; i < SITUATIONS && from > 0 && from < size; i++) {
                from = cameFrom[from];
                depth++;
            }
            return depth;
        }
    }

    /** The BRACKET of a town, kept till the town changes. */
    private static final class Bracket {
        private static final int REACH = 99;
        private static final int RINGS = 16;

        boolean known;
        private final int[] number = new int[2 * REACH + 1];
        /** How many choices have so many A and so many rings. */
        private final int[] choices = new int[(BRIDGES + 1) * RINGS];
        /** Of each end of a string of joined PIECES its other end. */
        private final int[] other = new int[ENDS];

        void prepare(Town town) {
            if (known) {
                return;
            }
            Arrays.fill(number, 0);
            Arrays.fill(choices, 0);
            for (int end = 0; end < ENDS; end++) {
                other[end] = end ^ 1;
            }
            cut(this, town, 0, 0, alone(town, 0) + alone(town, 1));
            for (int as = 0; as <= town.bridges(); as++) {
                for (int rings = 1; rings < RINGS; rings++) {
                    addUp(2 * as - town.bridges(), rings - 1, choices[as * RINGS + rings]);
                }
            }
            known = true;
        }

        int numberAt(int power) {
            return power < -REACH || power > REACH ? 0 : number[power + REACH];
        }

        int jonesAt(int power, int writhe) {
            if (power < -REACH || power > REACH) {
                return 0;
            }
            int found = numberAt(power + 3 * writhe);
            return (writhe & 1) == 0 ? found : -found;
        }

        private static int alone(Town town, int road) {
            return road < town.roads && town.roadStart(road) == town.roadEnd(road) ? 1 : 0;
        }

        /** All choices for the BRIDGES from one on, behind those that are made. */
        private static void cut(Bracket sum, Town town, int bridge, int as, int rings) {
            if (bridge >= BRIDGES) {
                if (rings < RINGS) {
                    sum.choices[as * RINGS + rings]++;
                }
                return;
            }
            if (!town.has(bridge)) {
                cut(sum, town, bridge + 1, as, rings);
                return;
            }
            int plus = town.hand[bridge];
            int overGo = 2 * town.overAt(bridge);
            int underGo = 2 * town.underAt(bridge);
            int overCome = 2 * town.prev[overGo >> 1] + 1;
            int underCome = 2 * town.prev[underGo >> 1] + 1;
            int closed = sum.tie(overCome, underGo) + sum.tie(underCome, overGo);
            cut(sum, town, bridge + 1, as + plus, rings + closed);
            sum.untie(underCome, overGo);
            sum.untie(overCome, underGo);
            closed = sum.tie(overCome, underCome) + sum.tie(overGo, underGo);
            cut(sum, town, bridge + 1, as + 1 - plus, rings + closed);
            sum.untie(overGo, underGo);
            sum.untie(overCome, underCome);
        }

        /** 1 if a ring is closed by it. */
        private int tie(int x, int y) {
            int beyondX = other[x];
            int beyondY = other[y];
            if (beyondX == y) {
                return 1;
            }
            other[beyondX] = beyondY;
            other[beyondY] = beyondX;
            return 0;
        }

        /** Ends inside a string still know what was beyond them, so the last tie can be undone. */
        private void untie(int x, int y) {
            int beyondX = other[x];
            int beyondY = other[y];
            other[beyondX] = x;
            other[beyondY] = y;
        }

        /** So many times A to a power times (-A^2 - A^-2) to the power n. */
        private void addUp(int power, int n, int times) {
            int factor = (n & 1) == 0 ? times : -times;
            for (int k = 0; k <= n && factor != 0; k++) {
                int at = power + 2 * n - 4 * k + REACH;
                if (at >= 0 && at < number.length) {
                    number[at] += factor;
                }
                factor = factor * (n - k) / (k + 1);
            }
        }
    }

    /** The BOWS of a town, and what is reckoned with their rows and columns. */
    private static final class Bows {
        private static final int COLUMNS = 13;

        int bows;
        /** By PLACES, of the PIECE that begins there. */
        final int[] of = new int[PLACES];
        private final long[] cell = new long[BRIDGES * COLUMNS];
        private int rows;

        void find(Town town) {
            bows = 0;
            int alone = 0;
            for (int road = 0; road < town.roads; road++) {
                alone += town.roadStart(road) == town.roadEnd(road) ? 1 : 0;
                findOnRoad(town, town.roadStart(road), town.roadEnd(road));
            }
            bows += alone;
        }

        private void findOnRoad(Town town, int start, int end) {
            int before = bows;
            for (int place = start; place < end; place++) {
                bows += (town.pass[place] & 1) == 0 ? 1 : 0;
                of[place] = bows - 1;
            }
            if (bows == before && start < end) {
                bows++;
            }
            // Ahead of its first PASS under, the road is still on the BOW that began last.
            for (int place = start; place < end && of[place] < before; place++) {
                of[place] = bows - 1;
            }
        }

        private void fill(Town town) {
            find(town);
            Arrays.fill(cell, 0L);
            rows = 0;
            for (int bridge = 0; bridge < BRIDGES; bridge++) {
                if (town.has(bridge)) {
                    int under = town.underAt(bridge);
                    addTo(of[town.overAt(bridge)], 2L);
                    addTo(of[under], -1L);
                    addTo(of[town.prev[under]], -1L);
                    rows++;
                }
            }
        }

        private void addTo(int column, long value) {
            if (column >= 0 && column < COLUMNS) {
                cell[rows * COLUMNS + column] += value;
            }
        }

        private void swapRows(int one, int two) {
            for (int c = 0; c < COLUMNS; c++) {
                long held = cell[one * COLUMNS + c];
                cell[one * COLUMNS + c] = cell[two * COLUMNS + c];
                cell[two * COLUMNS + c] = held;
            }
        }

        /** A row from one on, with something else than 0 in a column: NONE if there is none. */
        private int pivot(int from, int until, int column) {
            for (int r = from; r < until; r++) {
                if (cell[r * COLUMNS + column] != 0L) {
                    return r;
                }
            }
            return NONE;
        }

        /** COLOURS by p. */
        long ways(Town town, int p) {
            fill(town);
            for (int i = 0; i < rows * COLUMNS; i++) {
                cell[i] = Math.floorMod(cell[i], (long) p);
            }
            int free = 0;
            int done = 0;
            for (int c = 0; c < bows && c < COLUMNS; c++) {
                int r = pivot(done, rows, c);
                if (r < 0) {
                    free++;
                } else {
                    swapRows(r, done);
                    clearBelow(done, c, p);
                    done++;
                }
            }
            long ways = 1L;
            for (int i = 0; i < free; i++) {
                ways *= p;
            }
            return ways;
        }

        private void clearBelow(int done, int column, int p) {
            long head = cell[done * COLUMNS + column];
            for (int r = done + 1; r < rows; r++) {
                long here = cell[r * COLUMNS + column];
                for (int c = 0; c < COLUMNS && here != 0L; c++) {
                    long value = head * cell[r * COLUMNS + c] - here * cell[done * COLUMNS + c];
                    cell[r * COLUMNS + c] = Math.floorMod(value, (long) p);
                }
            }
        }

        /** DETERMINANT, by whole numbers alone: each division leaves no rest. */
        long minor(Town town) {
            fill(town);
            if (bows >= rows + 2) {
                return 0L;
            }
            int n = bows - 1;
            if (n <= 0) {
                return 1L;
            }
            long last = 1L;
            for (int k = 0; k < n - 1; k++) {
                int r = pivot(k, n, k);
                if (r < 0 || last == 0L) {
                    return 0L;
                }
                swapRows(r, k);
                reduceBelow(k, n, last);
                last = cell[k * COLUMNS + k];
            }
            return Math.abs(cell[(n - 1) * COLUMNS + n - 1]);
        }

        private void reduceBelow(int k, int n, long last) {
            for (int i = k + 1; i < n && last != 0L; i++) {
                for (int j = k + 1; j < n; j++) {
                    long value = cell[i * COLUMNS + j] * cell[k * COLUMNS + k]
                            - cell[i * COLUMNS + k] * cell[k * COLUMNS + j];
                    cell[i * COLUMNS + j] = value / last;
                }
            }
        }
    }

    /** A RULE that was read: what is to be reckoned, operands ahead of their sign. */
    private static final class Rule {
        static final int PLUS = -10;
        static final int MINUS = -11;
        static final int TIMES = -12;
        static final int BY = -13;
        static final int REST = -14;
        static final int LESS = -15;
        static final int AT_MOST = -16;
        static final int SAME = -17;
        static final int AT_LEAST = -18;
        static final int MORE = -19;
        static final int AND = -20;
        static final int OR = -21;
        static final int NOT = -22;

        /** A NUMBER as it is, -1 and below a WORD, -10 and below a sign. */
        final int[] code;
        /** Whether it asks for the minute. */
        final boolean timed;

        Rule(int[] code, boolean timed) {
            this.code = code;
            this.timed = timed;
        }

        /** Whether some bar TEST holds, by the values of the WORDS. */
        boolean bars(long[] words, long[] stack) {
            int depth = 0;
            for (int i = 0; i < code.length; i++) {
                int c = code[i];
                if (c > PLUS) {
                    if (depth < stack.length) {
                        stack[depth] = c >= 0 ? c : wordOf(words, c);
                        depth++;
                    }
                } else if (c == NOT) {
                    if (depth > 0) {
                        stack[depth - 1] = 1L - stack[depth - 1];
                    }
                } else if (depth > 1) {
                    depth--;
                    stack[depth - 1] = reckon(c, stack[depth - 1], stack[depth]);
                }
            }
            return depth > 0 && stack[0] != 0L;
        }

        private static long wordOf(long[] words, int c) {
            int word = -1 - c;
            return word >= 0 && word < words.length ? words[word] : 0L;
        }

        private static long reckon(int sign, long left, long right) {
            switch (sign) {
                case PLUS:
                    return left + right;
                case MINUS:
                    return left - right;
                case TIMES:
                    return left * right;
                case BY:
                    return right == 0L ? 0L : left / right;
                case REST:
                    return right == 0L ? 0L : left % right;
                case AND:
                    return left & right;
                case OR:
                    return left | right;
                default:
                    return compare(sign, left, right) ? 1L : 0L;
            }
        }

        private static boolean compare(int sign, long left, long right) {
            switch (sign) {
                case LESS:
                    return left < right;
                case AT_MOST:
                    return left <= right;
                case SAME:
                    return left == right;
                case AT_LEAST:
                    return left >= right;
                default:
                    return left > right;
            }
        }
    }

    /** Reads a RULE from the tape. */
    private static final class RuleText {
        private static final int TEST = 0;
        private static final int PART = 1;
        private static final int FACT = 2;
        private static final int SUM = 3;
        private static final int VALUE = 5;
        private static final int CLAUSES = 12;
        private static final int DEEP = 10;
        private static final int COUNTED = 60;
        private static final int GREATEST = 99999;

        private final int[] code = new int[TAPE_BYTES];
        private int length;
        private int counted;
        private boolean timed;

        /** The RULE; null if there is a fault on the tape. */
        Rule read(Tape tape) {
            length = 0;
            counted = 0;
            timed = false;
            tape.rewind();
            boolean more = true;
            for (int clauses = 0; clauses <= CLAUSES && more; clauses++) {
                readClause(tape, clauses);
                more = tape.fault == 0 && tape.takeSign(';');
            }
            if (!tape.atEnd()) {
                tape.fail(0);
            }
            return tape.fault == 0 ? new Rule(Arrays.copyOf(code, length), timed) : null;
        }

        private void emit(int c) {
            if (length < code.length) {
                code[length] = c;
                length++;
            }
        }

        private void readClause(Tape tape, int ahead) {
            if (!tape.seesWord("bar")) {
                tape.fail(0);
                return;
            }
            if (ahead == CLAUSES) {
                tape.fail(4);
                return;
            }
            tape.takeWord("bar");
            readLevel(tape, TEST, 0);
            if (ahead > 0) {
                emit(Rule.OR);
            }
        }

        /** What is joined on a level are things of the next one. */
        private void readLevel(Tape tape, int level, int depth) {
            if (level == FACT) {
                readFact(tape, depth);
                return;
            }
            if (level == VALUE) {
                readValue(tape);
                return;
            }
            readLevel(tape, level + 1, depth);
            int sign = takenJoint(tape, level);
            for (int i = 0; i < TAPE_BYTES && sign != 0; i++) {
                readLevel(tape, level + 1, depth);
                emit(sign);
                sign = takenJoint(tape, level);
            }
        }

        /** The sign or word that joins on a level; 0 if there is none, or behind a fault. */
        private static int takenJoint(Tape tape, int level) {
            if (tape.fault != 0) {
                return 0;
            }
            switch (level) {
                case TEST:
                    return tape.takeWord("or") ? Rule.OR : 0;
                case PART:
                    return tape.takeWord("and") ? Rule.AND : 0;
                case SUM:
                    return tape.takeSign('+') ? Rule.PLUS : tape.takeSign('-') ? Rule.MINUS : 0;
                default:
                    return tape.takeSign('*') ? Rule.TIMES
                            : tape.takeSign('/') ? Rule.BY : tape.takeSign('%') ? Rule.REST : 0;
            }
        }

        private void readFact(Tape tape, int depth) {
            boolean not = tape.seesWord("not");
            if (!not && tape.look() != '[') {
                readComparison(tape, depth);
                return;
            }
            if (depth >= DEEP) {
                tape.fail(2);
                return;
            }
            if (not) {
                tape.takeWord("not");
                readFact(tape, depth + 1);
                emit(Rule.NOT);
                return;
            }
            tape.takeSign('[');
            readLevel(tape, TEST, depth + 1);
            if (tape.fault == 0 && !tape.takeSign(']')) {
                tape.fail(0);
            }
        }

        private void readComparison(Tape tape, int depth) {
            readLevel(tape, SUM, depth);
            if (tape.fault != 0) {
                return;
            }
            int sign = seenSign(tape);
            if (sign == 0) {
                tape.fail(0);
                return;
            }
            if (counted >= COUNTED) {
                tape.fail(3);
                return;
            }
            counted++;
            tape.at += sign == Rule.AT_MOST || sign == Rule.AT_LEAST ? 2 : 1;
            readLevel(tape, SUM, depth);
            emit(sign);
        }

        private static int seenSign(Tape tape) {
            int sign = tape.look();
            boolean same = tape.at + 1 < tape.length && tape.bytes[tape.at + 1] == '=';
            switch (sign) {
                case '=':
                    return Rule.SAME;
                case '<':
                    return same ? Rule.AT_MOST : Rule.LESS;
                case '>':
                    return same ? Rule.AT_LEAST : Rule.MORE;
                default:
                    return 0;
            }
        }

        private void readValue(Tape tape) {
            boolean digits = tape.seesNumber();
            int word = digits ? NONE : seenWord(tape);
            int value = digits ? tape.seenNumber(GREATEST) : -1 - word;
            if (!digits && word < 0) {
                tape.fail(0);
            }
            if (tape.fault == 0 && counted >= COUNTED) {
                tape.fail(3);
            }
            if (tape.fault != 0) {
                return;
            }
            counted++;
            emit(value);
            if (digits) {
                tape.skipNumber();
            } else {
                tape.takeWord(wordNamed(word));
                timed |= word == Gossip.MINUTE;
            }
        }

        private static int seenWord(Tape tape) {
            for (int word = 0; word < Gossip.WORDS; word++) {
                if (tape.seesWord(wordNamed(word))) {
                    return word;
                }
            }
            return NONE;
        }

        private static String wordNamed(int word) {
            switch (word) {
                case Gossip.BRIDGE:
                    return "bridge";
                case Gossip.HAND:
                    return "hand";
                case Gossip.FROM:
                    return "from";
                case Gossip.TO:
                    return "to";
                case Gossip.THROUGH:
                    return "through";
                case Gossip.OVER:
                    return "over";
                case Gossip.MINUTE:
                    return "minute";
                default:
                    return "bridges";
            }
        }
    }

    /** GOSSIP as it passes from PIECE to PIECE. */
    private static final class Gossip {
        static final int BRIDGE = 0;
        static final int HAND = 1;
        static final int FROM = 2;
        static final int TO = 3;
        static final int THROUGH = 4;
        static final int OVER = 5;
        static final int MINUTE = 6;
        static final int HOW_MANY = 7;
        static final int WORDS = 8;

        private static final int STACK = 64;

        private final long[] words = new long[WORDS];
        private final long[] stack = new long[STACK];
        private int have;

        /** The PIECES that have it behind n minutes, as bits. */
        int spread(Town town, Rule rule, int piece, int n) {
            begin(town, piece);
            for (int minute = 1; minute <= n; minute++) {
                if (!passOn(town, rule, minute)) {
                    return have;
                }
            }
            return have;
        }

        int minuteOf(Town town, Rule rule, int piece, int other) {
            begin(town, piece);
            int heard = 0;
            boolean more = true;
            for (int minute = 0; minute < MINUTES && more && (have >> other & 1) == 0; minute++) {
                more = passOn(town, rule, minute + 1);
                heard = minute + 1;
            }
            return (have >> other & 1) == 1 ? heard : NOT_THERE;
        }

        private void begin(Town town, int piece) {
            have = 1 << piece;
            words[HOW_MANY] = town.bridges();
        }

        /** One minute; false if no later one can bring anything new. */
        private boolean passOn(Town town, Rule rule, int minute) {
            int had = have;
            words[MINUTE] = minute;
            for (int piece = 0; piece < town.total; piece++) {
                if ((had >> piece & 1) == 1) {
                    words[FROM] = piece;
                    meet(town, rule, town.next[piece], town.next[piece]);
                    meet(town, rule, piece, town.prev[piece]);
                }
            }
            boolean waits = rule != null && rule.timed;
            return have != (1 << town.total) - 1 && (have != had || waits);
        }

        private void meet(Town town, Rule rule, int place, int along) {
            int code = town.pass[place];
            int across = town.at[code ^ 1];
            if (!town.hasPlace(across)) {
                return;
            }
            words[BRIDGE] = code >> 1;
            words[HAND] = town.hand[code >> 1];
            words[OVER] = code & 1;
            words[THROUGH] = 0L;
            tell(rule, along);
            words[THROUGH] = 1L;
            tell(rule, across);
            tell(rule, town.prev[across]);
        }

        private void tell(Rule rule, int to) {
            if ((have >> to & 1) == 1) {
                return;
            }
            words[TO] = to;
            if (rule == null || !rule.bars(words, stack)) {
                have |= 1 << to;
            }
        }
    }
}
