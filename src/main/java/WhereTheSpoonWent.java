/**
 * Where the spoon went: a house that falls for ever, and what goes on and on in it.
 *
 * The words in capitals, and the promises by number, are those of the document. Every row is made
 * once, by the constructors: no call makes an object, since all calls of a run share one room.
 */
public final class WhereTheSpoonWent {
    public static final int NONE = -1, BAD = -2, STATE = -3, FULL = -4;
    public static final long NO = -4611686018427387904L;

    private static final int NO_SUCH = -5, NOT_SO = -7;
    private static final int NOTHING_THERE = -11, OUTSIDE = -12, UNLIKE = -13, BELOW_ZERO = -14;

    private static final int WIDE = 6, HIGH = 5, CELLS = WIDE * HIGH;
    private static final int WAYS = 5, STILL = 4;
    private static final int MOST_THINGS = 5, KINDS = 6, MORES = 10;
    private static final int MOST_STEPS = 40, LAST_STEP = 99, LAST_TURN = 20;
    private static final int MOST_TEXTS = 6, MOST_BYTES = 160, LAST_BYTE = 255, DEEPEST = 5;
    private static final int BLOWS = 0, WORTH = 1, HANDS = 2, PARTS = 3;
    private static final int LAST_SEED = 99999, MOST_SEEDS = 40;
    private static final int SHEETS = 4, MOST_NUMBERS = 40;
    private static final int MISSING = -1, BYTES = 0, SHORTS = 1, INTS = 2;
    private static final int HUNDRED = 100;

    private final House now = new House();
    private final House kept = new House();
    private boolean isKept;
    private final Thing[] kinds = new Thing[KINDS];
    private final Text[] texts = new Text[MOST_TEXTS];
    private int textCount;
    private final Reader reader = new Reader();
    private final Sheet[] sheets = new Sheet[SHEETS];
    private final Flight flight = new Flight(now);
    private final int[] path = new int[MOST_STEPS + 1];
    private final int[] far = new int[CELLS];
    private final int[] queue = new int[CELLS];
    private final int[] ends = new int[MOST_THINGS * WAYS];
    private final int[] tally = new int[CELLS];

    public WhereTheSpoonWent() {
        kinds[0] = new Thing();
        kinds[1] = new Sticky();
        kinds[2] = new Screw();
        kinds[3] = new Tear();
        kinds[4] = new Cat();
        kinds[5] = new Heavy();
        int[] stack = new int[MOST_BYTES];
        for (int i = 0; i < MOST_TEXTS; i++) {
            texts[i] = new Text(stack);
        }
        texts[0].becomeNumbers(4, 5, 1);
        textCount = 1;
        for (int i = 0; i < SHEETS; i++) {
            sheets[i] = new Sheet();
        }
    }

    // ---- the house, the law

    public int house(int what, int c, int is) {
        if (what < 0 || what > 2) {
            return NONE;
        }
        if (!isCell(c) || is < 0 || is > 1) {
            return BAD;
        }
        if (what == 0 && is == 1 && isAnyThingIn(c)) {
            return STATE;
        }
        int was = has(now.bits(what), c) ? 1 : 0;
        if (was != is) {
            now.flip(what, c);
        }
        return was;
    }

    public int set(int v) {
        if (!isStep(v)) {
            return BAD;
        }
        int was = now.step;
        now.step = v;
        return was;
    }

    public int count(int what) {
        switch (what) {
            case 0: return now.things;
            case 1: return now.walls;
            case 2: return now.nets;
            case 3: return now.fans;
            case 4: return now.step;
            case 5: return textCount;
            case 6: return now.law;
            case 7: return reader.size;
            default: return BAD;
        }
    }

    public int feed(int n, int a, int b, int c, int d, int e) {
        if (n < 1 || n > 5) {
            return BAD;
        }
        if (!isByte(a) || !isByte(b) || !isByte(c) || !isByte(d) || !isByte(e)) {
            return BAD;
        }
        if (reader.size + n > MOST_BYTES) {
            return FULL;
        }
        for (int i = 0; i < n; i++) {
            reader.add(i == 0 ? a : i == 1 ? b : i == 2 ? c : i == 3 ? d : e);
        }
        return reader.size;
    }

    public int text() {
        if (textCount >= MOST_TEXTS) {
            return FULL;
        }
        int fault = reader.read(texts[textCount]);
        reader.size = 0;
        if (fault >= 0) {
            return -100 - fault;
        }
        textCount++;
        return textCount - 1;
    }

    public int force(int t) {
        if (t < 0 || t >= textCount) {
            return BAD;
        }
        int was = now.law;
        now.law = t;
        return was;
    }

    public int asks(int part, int c, int when, int thingMore) {
        if (part < 0 || part >= PARTS || !isCell(c) || !isStep(when)) {
            return BAD;
        }
        if (thingMore < 0 || thingMore > 99) {
            return BAD;
        }
        return law().says(part, c, when, thingMore / MORES, thingMore % MORES);
    }

    // ---- things

    public int thing(int kindMore, int c, int goes) {
        if (kindMore < 0 || kindMore >= KINDS * MORES || !isOpen(c) || !isWay(goes)) {
            return BAD;
        }
        int t = now.things;
        if (t >= MOST_THINGS) {
            return FULL;
        }
        now.kinds[t] = kindMore / MORES;
        now.mores[t] = kindMore % MORES;
        now.cells[t] = c;
        now.ways[t] = goes;
        now.things = t + 1;
        return t;
    }

    public int put(int t, int c, int goes) {
        if (!isThing(t)) {
            return NO_SUCH;
        }
        if (!isOpen(c) || !isWay(goes)) {
            return NOT_SO;
        }
        int was = now.cells[t];
        now.cells[t] = c;
        now.ways[t] = goes;
        return was;
    }

    public int told(int t, int what) {
        if (!isThing(t)) {
            return NO_SUCH;
        }
        switch (what) {
            case 0: return now.cells[t];
            case 1: return now.ways[t];
            case 2: return now.kinds[t];
            case 3: return now.mores[t];
            default: return NOT_SO;
        }
    }

    // ---- steps

    public int at(int n, int t, int what) {
        if (!isBehind(n) || !isThing(t)) {
            return NO_SUCH;
        }
        if (!isChoice(what)) {
            return NOT_SO;
        }
        Flight f = behind(n, t);
        return what == 0 ? f.cell : f.way;
    }

    public int run(int n) {
        if (!isBehind(n)) {
            return BAD;
        }
        int still = 0;
        for (int t = 0; t < now.things; t++) {
            Flight f = behind(n, t);
            now.cells[t] = f.cell;
            now.ways[t] = f.way;
            still += f.way == STILL ? 1 : 0;
        }
        now.step = Math.min(now.step + n, LAST_STEP);
        return still;
    }

    public int when(int t, int c) {
        if (!isThing(t)) {
            return NO_SUCH;
        }
        if (!isCell(c)) {
            return NOT_SO;
        }
        follow(lift(t));
        return firstIn(c);
    }

    public int meet(int t, int u) {
        if (!isThing(t) || !isThing(u) || t == u) {
            return NO_SUCH;
        }
        follow(lift(t));
        Flight f = lift(u);
        for (int k = 0; k <= MOST_STEPS; k++) {
            if (f.cell == path[k]) {
                return k;
            }
            f.pass(now.step + k);
        }
        return -1;
    }

    public int inside(int n, int c) {
        if (!isBehind(n)) {
            return NO_SUCH;
        }
        if (!isCell(c)) {
            return NOT_SO;
        }
        int bits = 0;
        for (int t = 0; t < now.things; t++) {
            bits |= behind(n, t).cell == c ? 1 << t : 0;
        }
        return bits;
    }

    // ---- a hand

    public int hand(int from, int t) {
        if (!isOpen(from) || !isThing(t)) {
            return NO_SUCH;
        }
        measure(from);
        follow(lift(t));
        return soonest(from, t);
    }

    public int first(int from, int what) {
        if (!isOpen(from)) {
            return NO_SUCH;
        }
        if (!isChoice(what)) {
            return NOT_SO;
        }
        measure(from);
        int best = -1;
        int most = 0;
        for (int t = 0; t < now.things; t++) {
            follow(lift(t));
            int k = soonest(from, t);
            int good = what == 0 ? -k : says(WORTH, now.cells[t], t);
            if (k >= 0 && (best < 0 || good > most)) {
                best = t;
                most = good;
            }
        }
        return best;
    }

    public int wait(int t, int what) {
        if (!isThing(t)) {
            return NO_SUCH;
        }
        if (!isChoice(what)) {
            return NOT_SO;
        }
        follow(lift(t));
        int best = -1;
        int least = -1;
        for (int c = 0; c < CELLS; c++) {
            if (!isOpen(c) || c == now.cells[t]) {
                continue;
            }
            measure(c);
            int k = soonest(c, t);
            if (k >= 0 && (least < 0 || k < least)) {
                best = c;
                least = k;
            }
        }
        return what == 0 ? best : least;
    }

    // ---- throws, turning the house, nets

    public int toss(int t, int fromTo, int what) {
        if (!isThing(t)) {
            return NO_SUCH;
        }
        if (fromTo < 0 || !isOpen(fromTo / HUNDRED) || !isCell(fromTo % HUNDRED) || !isChoice(what)) {
            return NOT_SO;
        }
        int best = -1;
        int least = -1;
        for (int way = 0; way < STILL; way++) {
            Flight f = letGo(t, way);
            f.cell = fromTo / HUNDRED;
            follow(f);
            int k = firstIn(fromTo % HUNDRED);
            if (k >= 0 && (least < 0 || k < least)) {
                best = way;
                least = k;
            }
        }
        return what == 0 ? best : least;
    }

    public int key() {
        int going = 0;
        for (int t = 0; t < now.things; t++) {
            going += now.ways[t] != STILL ? 1 : 0;
            now.ways[t] = turned(now.ways[t]);
        }
        return going;
    }

    public int turn(int t, int c, int what) {
        if (!isThing(t)) {
            return NO_SUCH;
        }
        if (!isCell(c) || !isChoice(what)) {
            return NOT_SO;
        }
        follow(lift(t));
        int least = firstIn(c);
        int best = -1;
        for (int at = 0; at <= LAST_TURN; at++) {
            followTurned(lift(t), at);
            int k = firstIn(c);
            if (k >= 0 && (least < 0 || k < least)) {
                best = at;
                least = k;
            }
        }
        return what == 0 ? best : least;
    }

    public int net(int n, int what) {
        if (!isBehind(n) || !isChoice(what)) {
            return BAD;
        }
        int best = -1;
        int most = caught(n, now.nets);
        for (int c = 0; c < CELLS; c++) {
            if (!isOpen(c) || has(now.nets, c)) {
                continue;
            }
            int held = caught(n, now.nets | 1 << c);
            if (held > most) {
                best = c;
                most = held;
            }
        }
        return what == 0 ? best : most;
    }

    // ---- which way it went

    public int can(int t, int n) {
        if (!isThing(t)) {
            return NO_SUCH;
        }
        if (!isBehind(n)) {
            return NOT_SO;
        }
        int bits = 0;
        for (int way = 0; way < WAYS; way++) {
            bits |= 1 << endOf(t, way, n);
        }
        return bits;
    }

    public int look(int t, int n, int what) {
        if (!isThing(t)) {
            return NO_SUCH;
        }
        if (!isBehind(n) || !isChoice(what)) {
            return NOT_SO;
        }
        tallyEnds(t, n);
        int best = 0;
        for (int c = 1; c < CELLS; c++) {
            best = tally[c] > tally[best] ? c : best;
        }
        return what == 0 ? best : tally[best];
    }

    public int went(int t, int n, int c) {
        if (!isThing(t)) {
            return NO_SUCH;
        }
        if (!isBehind(n) || !isCell(c)) {
            return NOT_SO;
        }
        int bits = 0;
        for (int way = 0; way < WAYS; way++) {
            bits |= endOf(t, way, n) == c ? 1 << way : 0;
        }
        return bits;
    }

    public long search(int t, int n, int part) {
        if (!isThing(t) || !isBehind(n) || !isChoice(part)) {
            return NO;
        }
        tallyEnds(t, n);
        int looks = 0;
        for (int c = 0; c < CELLS; c++) {
            looks += tally[c] * (1 + countAhead(c));
        }
        return fraction(looks, WAYS, part);
    }

    // ---- told places

    public int judge(int s, int n) {
        int refusal = refusalOfPlaces(s);
        if (refusal != 0) {
            return refusal;
        }
        if (!isBehind(n)) {
            return NOT_SO;
        }
        return firstElsewhere(s, n, law());
    }

    public long times(int s) {
        if (refusalOfPlaces(s) != 0) {
            return NO;
        }
        long bits = (1L << MOST_STEPS + 1) - 1;
        for (int t = 0; t < now.things; t++) {
            follow(lift(t));
            for (int k = 0; k <= MOST_STEPS; k++) {
                if (path[k] != sheets[s].numbers[t]) {
                    bits &= ~(1L << k);
                }
            }
        }
        return bits;
    }

    public int laws(int s, int n) {
        int refusal = refusalOfPlaces(s);
        if (refusal != 0) {
            return refusal;
        }
        if (!isBehind(n)) {
            return NOT_SO;
        }
        int bits = 0;
        for (int i = 0; i < textCount; i++) {
            bits |= firstElsewhere(s, n, texts[i]) < 0 ? 1 << i : 0;
        }
        return bits;
    }

    public int film(int s, int n) {
        if (!isSheet(s)) {
            return BAD;
        }
        if (!isBehind(n)) {
            return NOT_SO;
        }
        sheets[s].become(INTS, now.things);
        for (int t = 0; t < now.things; t++) {
            sheets[s].numbers[t] = behind(n, t).cell;
        }
        return now.things;
    }

    // ---- throws by lot

    public int drawn(int seed, int n, int c) {
        if (!isSeed(seed) || !isBehind(n) || !isCell(c)) {
            return BAD;
        }
        listEnds(n);
        return countDrawn(seed, c);
    }

    public long mean(int seed, int seeds, int nCell, int part) {
        if (!isSeed(seed) || seeds < 1 || seeds > MOST_SEEDS || nCell < 0) {
            return NO;
        }
        if (!isBehind(nCell / HUNDRED) || !isCell(nCell % HUNDRED) || !isChoice(part)) {
            return NO;
        }
        listEnds(nCell / HUNDRED);
        int sum = 0;
        for (int i = 0; i < seeds; i++) {
            sum += countDrawn(seed + i, nCell % HUNDRED);
        }
        return fraction(sum, seeds, part);
    }

    public int image() {
        kept.become(now);
        isKept = true;
        return now.things;
    }

    public int back() {
        if (!isKept) {
            return STATE;
        }
        now.become(kept);
        return now.things;
    }

    // ---- the host

    public int sheet(int s, int sort, int n) {
        if (!isSheet(s) || sort < MISSING || sort > INTS) {
            return BAD;
        }
        if (sort == MISSING) {
            sheets[s].become(MISSING, 0);
            return 1;
        }
        if (n > MOST_NUMBERS) {
            return BAD;
        }
        if (n < 0) {
            return BELOW_ZERO;
        }
        sheets[s].become(sort, n);
        return 1;
    }

    public int cell(int s, int i, int v) {
        if (!isSheet(s)) {
            return BAD;
        }
        if (sheets[s].sort == MISSING) {
            return NOTHING_THERE;
        }
        if (!sheets[s].holds(i, 1)) {
            return OUTSIDE;
        }
        sheets[s].write(i, v);
        return 1;
    }

    public int copy(int s, int i, int other, int j, int n) {
        if (!isSheet(s) || !isSheet(other)) {
            return BAD;
        }
        Sheet from = sheets[s];
        Sheet to = sheets[other];
        if (from.sort == MISSING || to.sort == MISSING) {
            return NOTHING_THERE;
        }
        if (from.sort != to.sort) {
            return UNLIKE;
        }
        if (!from.holds(i, n) || !to.holds(j, n)) {
            return OUTSIDE;
        }
        System.arraycopy(from.numbers, i, to.numbers, j, n);
        return n;
    }

    public int thingsBy(int s, int sort, int at, int n) {
        if (!isSheet(s) || sort < BYTES || sort > INTS || n < 0 || n > MOST_THINGS) {
            return BAD;
        }
        Sheet by = sheets[s];
        if (by.sort == MISSING) {
            return NOTHING_THERE;
        }
        if (by.sort != sort) {
            return UNLIKE;
        }
        int came = 0;
        for (int i = 0; i < n; i++) {
            int place = at + 3 * i;
            if (!by.holds(place, 3)) {
                return OUTSIDE;
            }
            int t = thing(by.numbers[place], by.numbers[place + 1], by.numbers[place + 2]);
            came += t >= 0 ? 1 : 0;
        }
        return came;
    }

    public int taken(int i, int kind) {
        if (kind < 0 || kind > KINDS) {
            return BAD;
        }
        if (i < 0 || i >= CELLS + MOST_THINGS) {
            return OUTSIDE;
        }
        return i < CELLS ? takenCell(i, kind) : takenThing(i - CELLS, kind);
    }

    // ---- what numbers may be

    private static boolean isCell(int c) {
        return c >= 0 && c < CELLS;
    }

    private boolean isOpen(int c) {
        return isCell(c) && !has(now.walls, c);
    }

    private static boolean isWay(int way) {
        return way >= 0 && way < WAYS;
    }

    private static boolean isStep(int step) {
        return step >= 0 && step <= LAST_STEP;
    }

    private static boolean isBehind(int n) {
        return n >= 0 && n <= MOST_STEPS;
    }

    private static boolean isByte(int b) {
        return b >= 0 && b <= LAST_BYTE;
    }

    private static boolean isSeed(int seed) {
        return seed >= 0 && seed <= LAST_SEED;
    }

    private static boolean isSheet(int s) {
        return s >= 0 && s < SHEETS;
    }

    private static boolean isChoice(int what) {
        return what == 0 || what == 1;
    }

    private boolean isThing(int t) {
        return t >= 0 && t < now.things;
    }

    // ---- parts of the answers

    private static boolean has(int bits, int c) {
        return (bits >> c & 1) == 1;
    }

    private static int turned(int way) {
        return way == STILL ? STILL : (way + 1) % 4;
    }

    private boolean isAnyThingIn(int c) {
        for (int t = 0; t < now.things; t++) {
            if (now.cells[t] == c) {
                return true;
            }
        }
        return false;
    }

    private Text law() {
        return texts[now.law];
    }

    private int says(int part, int c, int t) {
        return law().says(part, c, now.step, t, now.mores[t]);
    }

    /** There is one flight only: what it held before is gone. */
    private Flight lift(int t) {
        flight.law = law();
        flight.nets = now.nets;
        flight.number = t;
        flight.kind = kinds[now.kinds[t]];
        flight.more = now.mores[t];
        flight.cell = now.cells[t];
        flight.way = now.ways[t];
        return flight;
    }

    private Flight letGo(int t, int way) {
        Flight f = lift(t);
        f.way = way;
        return f;
    }

    private Flight behind(int n, int t) {
        Flight f = lift(t);
        f.passAll(now.step, n);
        return f;
    }

    private int endOf(int t, int way, int n) {
        Flight f = letGo(t, way);
        f.passAll(now.step, n);
        return f.cell;
    }

    private void follow(Flight f) {
        followTurned(f, -1);
    }

    private void followTurned(Flight f, int at) {
        for (int k = 0; k <= MOST_STEPS; k++) {
            path[k] = f.cell;
            if (k == at) {
                f.way = turned(f.way);
            }
            f.pass(now.step + k);
        }
    }

    /** Of the path that was followed last. */
    private int firstIn(int c) {
        for (int k = 0; k <= MOST_STEPS; k++) {
            if (path[k] == c) {
                return k;
            }
        }
        return -1;
    }

    private void measure(int from) {
        for (int c = 0; c < CELLS; c++) {
            far[c] = -1;
        }
        far[from] = 0;
        queue[0] = from;
        int used = 1;
        for (int i = 0; i < used && i < CELLS; i++) {
            for (int way = 0; way < STILL; way++) {
                int c = now.beyond(queue[i], way);
                if (c >= 0 && far[c] < 0 && used < CELLS) {
                    far[c] = far[queue[i]] + 1;
                    queue[used] = c;
                    used++;
                }
            }
        }
    }

    /** Of the CELL that was measured last, and the path that was followed last. */
    private int soonest(int from, int t) {
        int reach = says(HANDS, from, t);
        for (int k = 0; k <= MOST_STEPS; k++) {
            int away = far[path[k]];
            if (away >= 0 && away <= k * reach) {
                return k;
            }
        }
        return -1;
    }

    private int caught(int n, int nets) {
        int held = 0;
        for (int t = 0; t < now.things; t++) {
            Flight f = lift(t);
            f.nets = nets;
            f.passAll(now.step, n);
            held += has(nets, f.cell) ? 1 : 0;
        }
        return held;
    }

    private void tallyEnds(int t, int n) {
        for (int c = 0; c < CELLS; c++) {
            tally[c] = 0;
        }
        for (int way = 0; way < WAYS; way++) {
            tally[endOf(t, way, n)]++;
        }
    }

    private int countAhead(int c) {
        int ahead = 0;
        for (int d = 0; d < CELLS; d++) {
            if (tally[d] > tally[c] || d < c && tally[d] == tally[c]) {
                ahead++;
            }
        }
        return ahead;
    }

    private static long fraction(int above, int below, int part) {
        int common = below;
        int rest = above;
        for (int i = 0; i < 1000 && rest != 0; i++) {
            int next = common % rest;
            common = rest;
            rest = next;
        }
        if (common == 0) {
            return NO;
        }
        return (part == 0 ? above : below) / common;
    }

    private int refusalOfPlaces(int s) {
        if (!isSheet(s)) {
            return BAD;
        }
        if (sheets[s].sort == MISSING) {
            return NOTHING_THERE;
        }
        return sheets[s].size == now.things ? 0 : BAD;
    }

    private int firstElsewhere(int s, int n, Text law) {
        for (int t = 0; t < now.things; t++) {
            Flight f = lift(t);
            f.law = law;
            f.passAll(now.step, n);
            if (f.cell != sheets[s].numbers[t]) {
                return t;
            }
        }
        return -1;
    }

    private void listEnds(int n) {
        for (int t = 0; t < now.things; t++) {
            for (int way = 0; way < WAYS; way++) {
                ends[WAYS * t + way] = endOf(t, way, n);
            }
        }
    }

    /** Of the ends that were listed last. */
    private int countDrawn(int seed, int c) {
        long lot = seed + 1;
        int there = 0;
        for (int t = 0; t < now.things; t++) {
            lot = lot * 48271 % 2147483647;
            int way = (int) (lot % WAYS);
            there += ends[WAYS * t + way] == c ? 1 : 0;
        }
        return there;
    }

    private int takenCell(int c, int kind) {
        if (!has(now.nets | now.fans, c)) {
            return NOTHING_THERE;
        }
        if (kind != KINDS) {
            return UNLIKE;
        }
        return has(now.nets, c) ? 1 : 0;
    }

    private int takenThing(int t, int kind) {
        if (!isThing(t)) {
            return NOTHING_THERE;
        }
        return kinds[now.kinds[t]].isOne(kind) ? t : UNLIKE;
    }

    // ---- the classes inside

    /** What AN IMAGE keeps; KIND and MORE of THINGS stand here too, though they never change. */
    private static final class House {
        int walls, nets, fans;
        int step, law, things;
        final int[] kinds = new int[MOST_THINGS];
        final int[] mores = new int[MOST_THINGS];
        final int[] cells = new int[MOST_THINGS];
        final int[] ways = new int[MOST_THINGS];

        void become(House other) {
            walls = other.walls;
            nets = other.nets;
            fans = other.fans;
            step = other.step;
            law = other.law;
            things = other.things;
            System.arraycopy(other.kinds, 0, kinds, 0, MOST_THINGS);
            System.arraycopy(other.mores, 0, mores, 0, MOST_THINGS);
            System.arraycopy(other.cells, 0, cells, 0, MOST_THINGS);
            System.arraycopy(other.ways, 0, ways, 0, MOST_THINGS);
        }

        int bits(int what) {
            return what == 0 ? walls : what == 1 ? nets : fans;
        }

        void flip(int what, int c) {
            if (what == 0) {
                walls ^= 1 << c;
            } else if (what == 1) {
                nets ^= 1 << c;
            } else {
                fans ^= 1 << c;
            }
        }

        /** -1: nothing can go there. */
        int beyond(int c, int way) {
            int x = c % WIDE + (way == 1 ? 1 : way == 3 ? -1 : 0);
            int y = c / WIDE + (way == 2 ? 1 : way == 0 ? -1 : 0);
            if (x < 0 || x >= WIDE || y < 0 || y >= HIGH) {
                return -1;
            }
            int to = WIDE * y + x;
            return has(walls, to) ? -1 : to;
        }
    }

    /** KIND 0, and what the others are by. */
    private static class Thing {
        boolean isOne(int kind) {
            return kind == 0;
        }

        int touching(int w) {
            return (w + 2) % 4;
        }

        boolean moves(int n, int more) {
            return true;
        }

        int blown(int b, int w) {
            return b == STILL ? w : b;
        }
    }

    private static class Sticky extends Thing {
        boolean isOne(int kind) {
            return kind == 1 || super.isOne(kind);
        }

        int touching(int w) {
            return STILL;
        }
    }

    private static class Screw extends Thing {
        boolean isOne(int kind) {
            return kind == 2 || super.isOne(kind);
        }

        int touching(int w) {
            return (w + 1) % 4;
        }
    }

    private static final class Tear extends Sticky {
        boolean isOne(int kind) {
            return kind == 3 || super.isOne(kind);
        }

        boolean moves(int n, int more) {
            return n % (Math.floorMod(more, 3) + 1) == 0;
        }
    }

    private static final class Cat extends Screw {
        boolean isOne(int kind) {
            return kind == 4 || super.isOne(kind);
        }

        int blown(int b, int w) {
            return b == STILL ? super.blown(b, w) : (b + 2) % 4;
        }
    }

    private static final class Heavy extends Thing {
        boolean isOne(int kind) {
            return kind == 5 || super.isOne(kind);
        }

        int blown(int b, int w) {
            return w == STILL ? super.blown(b, w) : w;
        }
    }

    /** One THING in thought. It has nets of its own, so that one can be tried that isn't there. */
    private static final class Flight {
        final House house;
        Text law;
        Thing kind;
        int nets, number, more, cell, way;

        Flight(House house) {
            this.house = house;
        }

        void passAll(int step, int n) {
            for (int i = 0; i < n; i++) {
                pass(step + i);
            }
        }

        void pass(int n) {
            if (house == null || law == null || kind == null) {
                return;
            }
            if (has(nets, cell)) {
                way = STILL;
                return;
            }
            if (has(house.fans, cell)) {
                way = kind.blown(law.says(BLOWS, cell, n, number, more), way);
            }
            if (way == STILL || !kind.moves(n, more)) {
                return;
            }
            int to = house.beyond(cell, way);
            if (to < 0) {
                way = kind.touching(way);
            } else {
                cell = to;
            }
        }
    }

    /**
     * A TEXT as codes, what belongs together behind what it is of: 3 + x is 3, x, +. So saying it
     * takes a stack and no recursion. A code from 0 on is a NUMBER.
     */
    private static final class Text {
        static final int CELL = -1, X = -2, Y = -3, STEP = -4, THING = -5, MORE = -6;
        static final int NOT = -7, NEGATE = -8;
        static final int PLUS = -9, MINUS = -10, TIMES = -11, LESS = -12, LIKE = -13, AND = -14, OR = -15;

        final int[] codes = new int[MOST_BYTES];
        final int[] starts = new int[PARTS + 1];
        final int[] stack;
        int used, parts;

        Text(int[] stack) {
            this.stack = stack;
        }

        void clear() {
            used = 0;
            parts = 0;
        }

        void add(int code) {
            if (used < MOST_BYTES) {
                codes[used] = code;
                used++;
            }
        }

        void endPart() {
            if (parts < PARTS) {
                parts++;
                starts[parts] = used;
            }
        }

        void becomeNumbers(int blows, int worth, int hands) {
            clear();
            add(blows);
            endPart();
            add(worth);
            endPart();
            add(hands);
            endPart();
        }

        int says(int part, int c, int step, int thing, int more) {
            int top = 0;
            for (int i = starts[part]; i < starts[part + 1]; i++) {
                int code = codes[i];
                if (code >= MORE && top < MOST_BYTES) {
                    stack[top] = leaf(code, c, step, thing, more);
                    top++;
                } else if (code >= NEGATE && top > 0) {
                    stack[top - 1] = code == NEGATE ? -stack[top - 1] : stack[top - 1] == 0 ? 1 : 0;
                } else if (top > 1) {
                    top--;
                    stack[top - 1] = joined(code, stack[top - 1], stack[top]);
                }
            }
            int most = part == BLOWS ? STILL : part == WORTH ? 99 : 9;
            return Math.max(0, Math.min(most, stack[0]));
        }

        private static int leaf(int code, int c, int step, int thing, int more) {
            switch (code) {
                case CELL: return c;
                case X: return c % WIDE;
                case Y: return c / WIDE;
                case STEP: return step;
                case THING: return thing;
                case MORE: return more;
                default: return code;
            }
        }

        private static int joined(int code, int a, int b) {
            switch (code) {
                case PLUS: return a + b;
                case MINUS: return a - b;
                case TIMES: return a * b;
                case LESS: return a < b ? 1 : 0;
                case LIKE: return a == b ? 1 : 0;
                case AND: return a != 0 && b != 0 ? 1 : 0;
                default: return a != 0 || b != 0 ? 1 : 0;
            }
        }
    }

    /** THE TAPE, and the reading of it: a method for each rule of the document's grammar. */
    private static final class Reader {
        static final int OPEN = -20, CLOSE = -21, END_PART = -22;
        static final int KEY_BLOWS = -23, KEY_WORTH = -24, KEY_HANDS = -25;
        static final int END = -30, BROKEN = -31;

        final byte[] bytes = new byte[MOST_BYTES];
        int size;
        private int token, start, next, fault;
        private Text out;

        void add(int b) {
            if (size < MOST_BYTES) {
                bytes[size] = (byte) b;
                size++;
            }
        }

        /** The place of the FAULT, -1 if there is none. */
        int read(Text into) {
            out = into;
            if (out == null) {
                return 0;
            }
            out.clear();
            fault = -1;
            next = 0;
            goOn();
            readPart(KEY_BLOWS);
            readPart(KEY_WORTH);
            readPart(KEY_HANDS);
            take(END);
            return fault;
        }

        private void readPart(int key) {
            take(key);
            readOr(0);
            out.endPart();
            take(END_PART);
        }

        private void readOr(int open) {
            readAnd(open);
            for (int i = 0; i < MOST_BYTES && token == Text.OR; i++) {
                goOn();
                readAnd(open);
                out.add(Text.OR);
            }
        }

        private void readAnd(int open) {
            readNot(open);
            for (int i = 0; i < MOST_BYTES && token == Text.AND; i++) {
                goOn();
                readNot(open);
                out.add(Text.AND);
            }
        }

        private void readNot(int open) {
            if (token == Text.NOT && open < DEEPEST) {
                goOn();
                readNot(open + 1);
                out.add(Text.NOT);
                return;
            }
            readSum(open);
            if (token == Text.LESS || token == Text.LIKE) {
                int sign = token;
                goOn();
                readSum(open);
                out.add(sign);
            }
        }

        private void readSum(int open) {
            readTerm(open);
            for (int i = 0; i < MOST_BYTES && (token == Text.PLUS || token == Text.MINUS); i++) {
                int sign = token;
                goOn();
                readTerm(open);
                out.add(sign);
            }
        }

        private void readTerm(int open) {
            readOne(open);
            for (int i = 0; i < MOST_BYTES && token == Text.TIMES; i++) {
                goOn();
                readOne(open);
                out.add(Text.TIMES);
            }
        }

        private void readOne(int open) {
            if (token >= Text.MORE) {
                out.add(token);
                goOn();
            } else if (token == Text.MINUS && open < DEEPEST) {
                goOn();
                readOne(open + 1);
                out.add(Text.NEGATE);
            } else if (token == OPEN && open < DEEPEST) {
                goOn();
                readOr(open + 1);
                take(CLOSE);
            } else {
                fail();
            }
        }

        private void take(int wanted) {
            if (token != wanted) {
                fail();
            } else if (token != END) {
                goOn();
            }
        }

        /** The TOKEN is BROKEN from then on: so no rule reads on, and the first FAULT stays. */
        private void fail() {
            if (fault < 0) {
                fault = start;
            }
            token = BROKEN;
        }

        private void goOn() {
            if (fault >= 0) {
                return;
            }
            start = next;
            while (start < size && (bytes[start] == 32 || bytes[start] == 10)) {
                start++;
            }
            next = start;
            if (start >= size) {
                token = END;
            } else if (isDigit(bytes[start])) {
                goOnNumber();
            } else if (isLetter(bytes[start])) {
                goOnWord();
            } else {
                next = start + 1;
                token = signOf(bytes[start]);
            }
        }

        private void goOnNumber() {
            int value = 0;
            while (next < size && isDigit(bytes[next])) {
                value = 10 * value + bytes[next] - '0';
                next++;
            }
            token = next - start > 4 ? BROKEN : value;
        }

        private void goOnWord() {
            while (next < size && isLetter(bytes[next])) {
                next++;
            }
            token = isWord("cell") ? Text.CELL
                : isWord("x") ? Text.X
                : isWord("y") ? Text.Y
                : isWord("step") ? Text.STEP
                : isWord("thing") ? Text.THING
                : isWord("more") ? Text.MORE
                : isWord("or") ? Text.OR
                : isWord("and") ? Text.AND
                : isWord("not") ? Text.NOT
                : isWord("blows") ? KEY_BLOWS
                : isWord("worth") ? KEY_WORTH
                : isWord("hands") ? KEY_HANDS
                : BROKEN;
        }

        private boolean isWord(String word) {
            if (word.length() != next - start) {
                return false;
            }
            for (int i = 0; i < word.length(); i++) {
                if (bytes[start + i] != word.charAt(i)) {
                    return false;
                }
            }
            return true;
        }

        private static boolean isDigit(int b) {
            return b >= '0' && b <= '9';
        }

        private static boolean isLetter(int b) {
            return b >= 'a' && b <= 'z';
        }

        private static int signOf(int b) {
            switch (b) {
                case '(': return OPEN;
                case ')': return CLOSE;
                case ';': return END_PART;
                case '+': return Text.PLUS;
                case '-': return Text.MINUS;
                case '*': return Text.TIMES;
                case '<': return Text.LESS;
                case '=': return Text.LIKE;
                default: return BROKEN;
            }
        }
    }

    /** The row stays as it is made; of a shorter SHEET what lies behind its size is not looked at. */
    private static final class Sheet {
        final int[] numbers = new int[MOST_NUMBERS];
        int sort = MISSING;
        int size;

        void become(int newSort, int newSize) {
            sort = newSort;
            size = newSize;
            for (int i = 0; i < MOST_NUMBERS; i++) {
                numbers[i] = 0;
            }
        }

        boolean holds(int i, int n) {
            return i >= 0 && n >= 0 && i <= size && n <= size - i;
        }

        void write(int i, int v) {
            numbers[i] = sort == BYTES ? (byte) v : sort == SHORTS ? (short) v : v;
        }
    }
}
