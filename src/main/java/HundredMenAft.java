import java.util.NoSuchElementException;

/** A boat under water in balance by tanks, stores, men and shots with places. */
public final class HundredMenAft {
    public static final int NONE = -1;

    private static final int NO_WAY = -2;
    private static final int MISSING = -3;
    private static final int NO_MORE_TELLINGS = -100;

    private static final int TANK = 0;
    private static final int STORE = 1;
    private static final int MEN = 2;
    private static final int SHOT = 3;

    private static final int HEAVY = 0;
    private static final int MOMENT = 1;
    private static final int LIST = 2;

    private static final int MOST_LOADS = 15;
    private static final int MOST_LAYERS = 6;
    private static final int MOST_PUMPS = 6;
    private static final int MOST_TELLINGS = 6;
    private static final int MOST_GAUGES = 12;
    private static final int MOST_KEPT = 3;
    private static final int MOST_ROW = 20;
    private static final int MOST_TEXT = 80;
    private static final int MOST_BOOK = 60;
    private static final int MOST_TELLING = 30;
    private static final int MOST_LINES = 15;
    private static final int LOADS_IN_BOOK = 16;
    private static final int MOST_OPEN = 4;

    private static final int DEEPEST = 600;
    private static final int LONGEST_DIVE = 600;
    private static final int LONGEST_DAYS = 400;
    private static final int LATEST_HOUR = 200;
    private static final int LAST_LOOK = 24;
    private static final int LONGEST_RUN = 99;
    private static final int WIDEST_WITHIN = 99;
    private static final long FAR = 1L << 40;

    private final Boat boat;
    private final Loads loads;
    private final Water water;
    private final Row told;
    private final int[] text;
    private int signs;
    private final Book morningBook;
    private final Pumps pumps;
    private final Dive diver;
    private final Tellings tellings;
    private final Stores stores;
    private final Span span;

    public HundredMenAft() {
        boat = new Boat();
        loads = boat.loads;
        water = boat.water;
        told = new Row();
        text = new int[MOST_TEXT];
        morningBook = new Book(boat);
        pumps = new Pumps(boat);
        diver = new Dive(boat);
        tellings = new Tellings(boat);
        stores = new Stores(boat);
        span = new Span();
    }

    // ---- the boat

    public int load(int kind, int x, int y, int most, int has) {
        boolean placed = between(kind, TANK, SHOT) && between(x, -99, 99) && between(y, -9, 9);
        if (!placed || !between(most, 0, 999) || !between(has, 0, most)) {
            return NONE;
        }
        return loads.add(kind, x, y, most, has);
    }

    public int fill(int load, int v) {
        if (!loads.there(load) || !between(v, 0, loads.most[load])) {
            return NONE;
        }
        int had = loads.has[load];
        loads.has[load] = v;
        return had;
    }

    public int sheet(int kind, int n, int f, int step) {
        if (!between(kind, 0, 3) || n > MOST_LOADS) {
            return NONE;
        }
        if (kind == 3) {
            loads.emptyTanks();
            return MISSING;
        }
        if (n < 0) {
            return NO_WAY;
        }
        int many = Math.min(n, loads.n);
        for (int i = 0; i < many; i++) {
            loads.put(i, entry(kind, f + i * step));
        }
        return many;
    }

    private static int entry(int kind, int v) {
        if (kind == 0) {
            return (byte) v;
        }
        return kind == 1 ? (short) v : v;
    }

    public boolean base(int weight, int moment, int list) {
        boolean known = between(weight, 0, 99999) && between(moment, -999999, 999999)
                && between(list, -99999, 99999);
        if (known) {
            boat.baseWeight = weight;
            boat.baseMoment = moment;
            boat.baseList = list;
        }
        return known;
    }

    public boolean hull(int volume, int squeeze) {
        boolean known = between(volume, 1, 99999) && between(squeeze, 0, 99);
        if (known) {
            water.volume = volume;
            water.squeeze = squeeze;
        }
        return known;
    }

    public int layer(int depth, int density) {
        return isDepth(depth) && between(density, 900, 1100) ? water.addLayer(depth, density) : NONE;
    }

    public int mix() {
        int gone = water.layers;
        water.layers = 0;
        return gone;
    }

    public int slack(int what, int v) {
        if (!between(what, HEAVY, LIST) || !between(v, 0, what == HEAVY ? 50 : 9999)) {
            return NONE;
        }
        int was = boat.slacks[what];
        boat.slacks[what] = v;
        return was;
    }

    public int of(int load, int what) throws NoSuchElementException {
        if (!loads.there(load)) {
            throw new NoSuchElementException("no such load");
        }
        switch (what) {
            case 0:
                return loads.kind[load];
            case 1:
                return loads.x[load];
            case 2:
                return loads.y[load];
            case 3:
                return loads.most[load];
            case 4:
                return loads.has[load];
            default:
                throw new NoSuchElementException("no such thing of a load");
        }
    }

    public int heavy(int depth) throws NoSuchElementException {
        if (!isDepth(depth)) {
            throw new NoSuchElementException("no such depth");
        }
        return boat.heavyAt(depth);
    }

    public int moment(int what) throws NoSuchElementException {
        if (!between(what, 0, 1)) {
            throw new NoSuchElementException("neither moment nor list");
        }
        return what == 0 ? boat.momentNow() : boat.listNow();
    }

    public int balanced(int depth) {
        if (!isDepth(depth)) {
            return NONE;
        }
        return boat.isBalanced(depth) ? 1 : 0;
    }

    public int lies(int from, int to) {
        if (!isWayDown(from, to)) {
            return NONE;
        }
        int weight = boat.weightNow();
        for (int depth = from; depth <= to; depth++) {
            if (weight <= water.liftAt(depth)) {
                return depth;
            }
        }
        return NO_WAY;
    }

    public int hover(int from, int to) {
        if (!isWayDown(from, to)) {
            return NONE;
        }
        boolean level = boat.isLevel();
        int weight = boat.weightNow();
        int many = 0;
        int first = NONE;
        int last = NONE;
        for (int depth = from; level && depth <= to; depth++) {
            if (Math.abs(weight - water.liftAt(depth)) <= boat.slacks[HEAVY]) {
                first = many == 0 ? depth : first;
                last = depth;
                many++;
            }
        }
        told.empty();
        if (many > 0) {
            told.add(first);
            told.add(last);
        }
        return many;
    }

    // ---- the morning's book

    public int sign(int v) {
        if (signs + 4 > MOST_TEXT) {
            return NONE;
        }
        for (int shift = 24; shift >= 0; shift -= 8) {
            text[signs] = (v >>> shift) & 255;
            signs++;
        }
        return signs;
    }

    public boolean end(int n) {
        if (!between(n, 0, signs)) {
            return false;
        }
        signs = n;
        return true;
    }

    public int book() {
        int bad = morningBook.read(text, signs);
        signs = 0;
        return bad == NONE ? morningBook.lines : -1 - bad;
    }

    public int line(int i) throws NoSuchElementException {
        if (!between(i, 0, morningBook.lines - 1)) {
            throw new NoSuchElementException("no such line");
        }
        return morningBook.valueOf(i);
    }

    public int morning() {
        int done = morningBook.doMorning();
        told.empty();
        for (int i = 0; i < morningBook.lines; i++) {
            told.add(morningBook.had[i]);
        }
        told.add(morningBook.cameIn);
        told.add(morningBook.wentOut);
        return done;
    }

    public int holds(int depth) {
        if (!isDepth(depth)) {
            return NONE;
        }
        int today = boat.day;
        loads.save();
        int answer = NO_WAY;
        for (int k = 0; k <= LONGEST_DAYS && answer == NO_WAY; k++) {
            morningBook.doMorning();
            if (boat.isBalanced(depth)) {
                stores.goDay();
            } else {
                answer = k;
                told.empty();
                told.add(boat.heavyAt(depth));
                told.add(boat.momentNow());
                told.add(boat.listNow());
            }
        }
        loads.restore();
        boat.day = today;
        return answer;
    }

    // ---- whose count is a lie

    public int liar(int depth, int heavy, int moment, int list) {
        if (!isDepth(depth)) {
            return NONE;
        }
        long more = (long) heavy - boat.heavyAt(depth);
        long moreMoment = (long) moment - boat.momentNow();
        long moreList = (long) list - boat.listNow();
        int bits = 0;
        told.empty();
        for (int i = 0; i < loads.n; i++) {
            long v = loads.has[i] + more;
            boolean so = v >= 0 && v <= loads.most[i]
                    && loads.x[i] * more == moreMoment && loads.y[i] * more == moreList;
            told.add(so ? (int) v : NONE);
            bits |= so ? 1 << i : 0;
        }
        return bits;
    }

    public int two(int depth, int heavy, int moment, int list) {
        if (!isDepth(depth)) {
            return NONE;
        }
        long more = (long) heavy - boat.heavyAt(depth);
        long moreMoment = (long) moment - boat.momentNow();
        long moreList = (long) list - boat.listNow();
        int pairs = 0;
        told.empty();
        for (int a = 0; a < loads.n; a++) {
            for (int b = a + 1; b < loads.n; b++) {
                boundFirst(a, b, more);
                span.fix(0, loads.x[a] - loads.x[b], moreMoment - loads.x[b] * more);
                span.fix(0, loads.y[a] - loads.y[b], moreList - loads.y[b] * more);
                long change = firstChange(more);
                if (change != 0) {
                    tellFirstPair(a, b, (int) change, (int) (more - change));
                    pairs++;
                }
            }
        }
        return pairs;
    }

    /** Leaves in the span by how much a may change, where b takes the rest of more. */
    private void boundFirst(int a, int b, long more) {
        long low = Math.max(-loads.has[a], more - loads.room(b));
        long high = Math.min(loads.room(a), more + loads.has[b]);
        span.reset(low, high);
    }

    /** The least change of the span with which neither of both stays as it is; 0 if there is none. */
    private long firstChange(long more) {
        long change = span.low;
        // Only 0 and more are left out, so three tries find one if there is one.
        for (int tries = 0; tries < 3 && change <= span.high; tries++) {
            if (change != 0 && change != more) {
                return change;
            }
            change++;
        }
        return 0;
    }

    private void tellFirstPair(int a, int b, int changeOfA, int changeOfB) {
        if (told.n > 0) {
            return;
        }
        told.add(a);
        told.add(b);
        told.add(loads.has[a] + changeOfA);
        told.add(loads.has[b] + changeOfB);
    }

    // ---- pumps

    public int pump(int from, int to, int rate, boolean quiet) {
        boolean ends = isPumpEnd(from) && isPumpEnd(to) && from != to;
        if (!ends || !between(rate, 1, 50)) {
            return NONE;
        }
        return pumps.add(from, to, rate, quiet);
    }

    private boolean isPumpEnd(int end) {
        return end == NONE || loads.isA(end, TANK);
    }

    public int run(int pump, int n) {
        if (!pumps.there(pump) || n == 0 || !between(n, -LONGEST_RUN, LONGEST_RUN)) {
            return NONE;
        }
        if (!pumps.can(pump, n)) {
            return NO_WAY;
        }
        pumps.move(pump, n);
        return Math.abs(n) * pumps.rate[pump];
    }

    public int best(int pump, int depth) {
        if (!pumps.there(pump) || !isDepth(depth)) {
            return NONE;
        }
        pumps.findBest(pump, depth);
        told.empty();
        told.add(pumps.minutes);
        told.add(pumps.heavyThen);
        told.add(pumps.momentThen);
        return 0;
    }

    public int trim(int depth, boolean quiet) {
        if (!isDepth(depth)) {
            return NONE;
        }
        if (boat.isBalanced(depth)) {
            told.empty();
            return 0;
        }
        pumps.findTrim(depth, quiet);
        if (pumps.foundLength == 0) {
            return NO_WAY;
        }
        told.empty();
        for (int i = 0; i < pumps.foundLength; i++) {
            told.add(pumps.found[i]);
        }
        return pumps.minutes;
    }

    public int reach(int depth) {
        if (!isDepth(depth)) {
            return NONE;
        }
        boolean can = boat.findSums(depth);
        told.empty();
        if (can) {
            told.add((int) boat.sums.low);
            told.add((int) boat.sums.high);
        }
        return can ? 1 : 0;
    }

    // ---- shots

    public int shot(int load, int n, int late, int rate, int tank) {
        boolean known = loads.isA(load, SHOT) && loads.isA(tank, TANK) && between(late, 0, 60)
                && between(rate, 1, 99);
        if (!known || !between(n, 1, loads.has[load])) {
            return NONE;
        }
        if (loads.room(tank) < n) {
            return NO_WAY;
        }
        int in = 0;
        int second = 0;
        int missing = 0;
        int moments = 0;
        while (in < n && second <= late + n) {
            missing += n - in;
            moments += loads.x[tank] * in - loads.x[load] * n;
            second++;
            in = second > late ? Math.min(n, in + rate) : 0;
        }
        loads.has[load] -= n;
        loads.has[tank] += n;
        told.empty();
        told.add(missing);
        told.add(moments);
        return second;
    }

    // ---- dives

    public int dive(int depth, int target, int n) {
        if (!isDepth(depth) || !isDepth(target) || !between(n, 0, LONGEST_DIVE)) {
            return NONE;
        }
        diver.begin(depth, Dive.pushOf(boat.momentNow()));
        int there = depth >= target ? 0 : NONE;
        for (int second = 1; second <= n; second++) {
            diver.goSecond();
            if (there == NONE && diver.tenths >= target * 10) {
                there = second;
            }
        }
        told.empty();
        told.add(diver.speed);
        told.add(there);
        return diver.tenths;
    }

    public int forward(int from, int to, int depth, int target, int n) {
        boolean known = loads.isA(from, MEN) && loads.isA(to, MEN) && from != to;
        if (!known || !isDepth(depth) || !isDepth(target) || !between(n, 0, LONGEST_DIVE)) {
            return NONE;
        }
        int most = Math.min(loads.has[from], loads.room(to));
        int moment = boat.momentNow();
        int step = loads.x[to] - loads.x[from];
        int tried = Dive.pushOf(moment) + 1;
        for (int men = 0; men <= most; men++) {
            int push = Dive.pushOf(moment + men * step);
            // Another man more whose push is cut to the same dives as those ahead of him did.
            if (push != tried) {
                tried = push;
                diver.begin(depth, push);
                int second = diver.arrives(target, n);
                if (second != NONE) {
                    told.empty();
                    told.add(second);
                    return men;
                }
            }
        }
        return NO_WAY;
    }

    public boolean carry(int from, int to, int n) {
        boolean known = loads.isA(from, MEN) && loads.isA(to, MEN)
                || loads.isA(from, STORE) && loads.isA(to, STORE);
        if (!known || from == to || !between(n, 1, loads.has[from]) || loads.room(to) < n) {
            return false;
        }
        loads.has[from] -= n;
        loads.has[to] += n;
        return true;
    }

    // ---- sinking slowly

    public int telling() {
        int many = signs;
        signs = 0;
        if (tellings.n >= MOST_TELLINGS) {
            return NO_MORE_TELLINGS;
        }
        int bad = tellings.read(text, many);
        return bad == NONE ? tellings.n - 1 : -1 - bad;
    }

    public int gauge(int hour, int depth, int what, int number) {
        boolean known = between(hour, 0, LATEST_HOUR) && isDepth(depth)
                && between(what, HEAVY, LIST) && between(number, -999999, 999999);
        return known ? tellings.addGauge(hour, depth, what, number) : NONE;
    }

    public int tells(int telling, int hour, int depth, int what) throws NoSuchElementException {
        boolean known = between(telling, 0, tellings.n - 1) && between(hour, 0, LATEST_HOUR)
                && isDepth(depth) && between(what, HEAVY, LIST);
        if (!known) {
            throw new NoSuchElementException("nothing is told of that");
        }
        return tellings.numberOf(telling, hour, depth, what);
    }

    public int fits(int within) {
        if (!between(within, 0, WIDEST_WITHIN)) {
            return NONE;
        }
        told.empty();
        for (int i = 0; i < tellings.n; i++) {
            told.add(tellings.farFromGauges(i));
        }
        return tellings.fitting(within);
    }

    public int look(int within, int depth) {
        if (!between(within, 0, WIDEST_WITHIN) || !isDepth(depth)) {
            return NONE;
        }
        int left = tellings.fitting(within);
        if (Integer.bitCount(left) < 2) {
            return NO_WAY;
        }
        int fewest = MOST_TELLINGS + 1;
        int bestHour = 0;
        int bestWhat = 0;
        for (int hour = 0; hour <= LAST_LOOK; hour++) {
            for (int what = HEAVY; what <= LIST; what++) {
                int together = tellings.mostTogether(left, within, hour, what);
                if (together < fewest) {
                    fewest = together;
                    bestHour = hour;
                    bestWhat = what;
                }
            }
        }
        told.empty();
        told.add(bestHour);
        told.add(bestWhat);
        return fewest;
    }

    // ---- air

    public int air(int v) {
        if (!between(v, 0, 99999)) {
            return NONE;
        }
        int was = boat.air;
        boat.air = v;
        return was;
    }

    public int blow(int tank, int depth) {
        if (!loads.isA(tank, TANK) || !isDepth(depth)) {
            return NONE;
        }
        int cost = airFor(loads.has[tank], depth);
        if (cost > boat.air) {
            return NO_WAY;
        }
        loads.has[tank] = 0;
        boat.air -= cost;
        return boat.air;
    }

    private static int airFor(int much, int depth) {
        return (much * (depth + 10) + 9) / 10;
    }

    public int rise(int tanks, int depth) {
        int many = Integer.bitCount(tanks);
        if (!areTanks(tanks) || !between(many, 1, 8) || !isDepth(depth)) {
            return NONE;
        }
        int heavy = boat.heavyAt(depth);
        int bestBits = NONE;
        int bestCost = 0;
        int bits = 0;
        for (int i = 0; i < 1 << many; i++) {
            int cost = airForAll(bits, depth);
            if (cost <= boat.air && heavy < tanksHave(bits) && isLess(bits, cost, bestBits, bestCost)) {
                bestBits = bits;
                bestCost = cost;
            }
            // The next greater bits that are all among those of tanks.
            bits = (bits - tanks) & tanks;
        }
        if (bestBits == NONE) {
            return NO_WAY;
        }
        told.empty();
        told.add(bestBits);
        told.add(boat.air - bestCost);
        return Integer.bitCount(bestBits);
    }

    private static boolean isLess(int bits, int cost, int bestBits, int bestCost) {
        if (bestBits == NONE || cost != bestCost) {
            return bestBits == NONE || cost < bestCost;
        }
        return Integer.bitCount(bits) < Integer.bitCount(bestBits);
    }

    private boolean areTanks(int bits) {
        boolean all = bits != 0 && bits >>> loads.n == 0;
        for (int i = 0; i < loads.n; i++) {
            all = all && ((bits >> i & 1) == 0 || loads.kind[i] == TANK);
        }
        return all;
    }

    private int airForAll(int bits, int depth) {
        int cost = 0;
        for (int i = 0; i < loads.n; i++) {
            cost += (bits >> i & 1) == 0 ? 0 : airFor(loads.has[i], depth);
        }
        return cost;
    }

    private int tanksHave(int bits) {
        int sum = 0;
        for (int i = 0; i < loads.n; i++) {
            sum += (bits >> i & 1) == 0 ? 0 : loads.has[i];
        }
        return sum;
    }

    public int times(int tanks, int depth) {
        if (!areTanks(tanks) || !isDepth(depth)) {
            return NONE;
        }
        int cost = 0;
        for (int i = 0; i < loads.n; i++) {
            cost += (tanks >> i & 1) == 0 ? 0 : airFor(loads.most[i], depth);
        }
        if (cost <= 0) {
            return NONE;
        }
        told.empty();
        told.add(boat.air % cost);
        return boat.air / cost;
    }

    // ---- stores

    public boolean eats(int store, int a, int percent, int waste) {
        boolean out = waste == NONE || waste != store
                && (loads.isA(waste, STORE) || loads.isA(waste, TANK));
        if (!loads.isA(store, STORE) || !between(a, 0, 50) || !between(percent, 0, 100) || !out) {
            return false;
        }
        stores.eaten[store] = a;
        stores.percent[store] = percent;
        stores.wasteTo[store] = waste;
        return true;
    }

    public int days(int n) {
        if (!between(n, 0, LONGEST_DAYS)) {
            return NONE;
        }
        for (int i = 0; i < n; i++) {
            stores.goDay();
        }
        return stores.emptyOnes();
    }

    public int lasts(int depth) {
        return isDepth(depth) ? stores.daysInReach(depth) : NONE;
    }

    public int shift(int depth) {
        if (!isDepth(depth)) {
            return NONE;
        }
        if (!stores.findShift(depth)) {
            return NO_WAY;
        }
        told.empty();
        told.add(stores.shiftFrom);
        told.add(stores.shiftTo);
        return stores.shiftDays > LONGEST_DAYS ? NONE : stores.shiftDays;
    }

    // ---- the ground, ice

    public int ground(int depth, int mud) {
        if (!isDepth(depth) || !between(mud, 0, 999)) {
            return NONE;
        }
        int needed = Math.max(0, boat.heavyAt(depth) + mud + 1);
        if (needed > loads.tanksHold()) {
            return NO_WAY;
        }
        loads.save();
        loads.emptyFullestFirst(needed);
        told.empty();
        for (int i = 0; i < loads.n; i++) {
            if (loads.kind[i] == TANK) {
                told.add(loads.has[i]);
            }
        }
        loads.restore();
        return needed;
    }

    public int ice(int depth, int thick) {
        if (!isDepth(depth) || !between(thick, 1, 20) || depth <= thick) {
            return NONE;
        }
        diver.begin(depth, Dive.pushOf(boat.momentNow()));
        int second = 0;
        while (diver.tenths > thick * 10 && second < LONGEST_DIVE) {
            diver.goSecond();
            second++;
        }
        boolean up = diver.tenths <= thick * 10;
        int hit = up ? Math.abs(diver.speed) * boat.weightNow() / 100 : 0;
        told.empty();
        told.add(up ? second : NONE);
        told.add(hit);
        return up && hit >= 50 * thick ? 1 : 0;
    }

    // ---- kept

    public boolean keep(int i) {
        if (!between(i, 0, MOST_KEPT - 1)) {
            return false;
        }
        boat.keepUnder(i);
        return true;
    }

    public boolean again(int i) {
        if (!between(i, 0, MOST_KEPT - 1) || boat.keptLoads[i] == NONE) {
            return false;
        }
        boat.takeAgain(i);
        return true;
    }

    public int seed(int v) {
        int was = boat.r;
        boat.r = v;
        return was;
    }

    public int lie() {
        int many = loads.thatHold();
        if (many == 0) {
            return NO_WAY;
        }
        int load = loads.holding(boat.draw(many));
        if (!loads.there(load)) {
            return NO_WAY;
        }
        loads.has[load] = boat.draw(loads.most[load] + 1);
        return load;
    }

    public int count(int what) {
        switch (what) {
            case 0:
                return loads.n;
            case 1:
                return water.layers;
            case 2:
                return morningBook.lines;
            case 3:
                return pumps.n;
            case 4:
                return tellings.n;
            case 5:
                return tellings.gauges;
            case 6:
                return boat.air;
            case 7:
                return boat.day;
            case 8:
                return told.n;
            case 9:
                return signs;
            default:
                return NONE;
        }
    }

    public int row(int i) throws NoSuchElementException {
        if (!between(i, 0, told.n - 1)) {
            throw new NoSuchElementException("no such number in the row");
        }
        return told.numbers[i];
    }

    private static boolean between(int v, int least, int most) {
        return v >= least && v <= most;
    }

    private static boolean isDepth(int depth) {
        return between(depth, 0, DEEPEST);
    }

    private static boolean isWayDown(int from, int to) {
        return isDepth(from) && isDepth(to) && from <= to;
    }

    private static int clamp(int v, int least, int most) {
        return Math.max(least, Math.min(most, v));
    }

    private static boolean isDigit(int sign) {
        return sign >= '0' && sign <= '9';
    }

    /** The numbers that were told last. */
    private static final class Row {
        final int[] numbers = new int[MOST_ROW];
        int n;

        void empty() {
            n = 0;
        }

        void add(int v) {
            if (n < numbers.length) {
                numbers[n] = v;
                n++;
            }
        }
    }

    /** A span of whole numbers; it has none if low is above high. */
    private static final class Span {
        long low;
        long high;

        void reset(long from, long to) {
            low = from;
            high = to;
        }

        boolean isEmpty() {
            return low > high;
        }

        /** Keeps those k with which start and step times k together are just so. */
        void fix(long start, long step, long just) {
            narrow(start, step, just, just);
        }

        /** Keeps those k with which start and step times k together are from least to most. */
        void narrow(long start, long step, long least, long most) {
            if (step == 0) {
                if (start < least || start > most) {
                    reset(0, -1);
                }
                return;
            }
            long size = Math.abs(step);
            long from = step > 0 ? least - start : start - most;
            long to = step > 0 ? most - start : start - least;
            low = Math.max(low, -Math.floorDiv(-from, size));
            high = Math.min(high, Math.floorDiv(to, size));
        }
    }

    /** All loads by their numbers. */
    private static final class Loads {
        final int[] kind = new int[MOST_LOADS];
        final int[] x = new int[MOST_LOADS];
        final int[] y = new int[MOST_LOADS];
        final int[] most = new int[MOST_LOADS];
        final int[] has = new int[MOST_LOADS];
        final int[] saved = new int[MOST_LOADS];
        /** The tanks' numbers, the one farthest aft first. */
        final int[] fromAft = new int[MOST_LOADS];
        int tanks;
        int n;

        boolean there(int i) {
            return i >= 0 && i < n;
        }

        boolean isA(int i, int aKind) {
            return there(i) && kind[i] == aKind;
        }

        int room(int i) {
            return there(i) ? most[i] - has[i] : 0;
        }

        int add(int aKind, int atX, int atY, int atMost, int now) {
            if (n >= MOST_LOADS) {
                return NONE;
            }
            kind[n] = aKind;
            x[n] = atX;
            y[n] = atY;
            most[n] = atMost;
            has[n] = now;
            if (aKind == TANK) {
                placeTank(n);
            }
            n++;
            return n - 1;
        }

        private void placeTank(int tank) {
            int at = tanks;
            while (at > 0 && x[fromAft[at - 1]] > x[tank]) {
                fromAft[at] = fromAft[at - 1];
                at--;
            }
            fromAft[at] = tank;
            tanks++;
        }

        void put(int i, int v) {
            if (there(i)) {
                has[i] = clamp(v, 0, most[i]);
            }
        }

        /** So much comes into a load; what is above its room is lost. */
        void give(int i, int much) {
            if (there(i)) {
                has[i] = Math.min(most[i], has[i] + much);
            }
        }

        void emptyTanks() {
            for (int i = 0; i < tanks; i++) {
                has[fromAft[i]] = 0;
            }
        }

        void emptyFullestFirst(int much) {
            int left = much;
            for (int turn = 0; turn < tanks && left > 0; turn++) {
                int tank = fullestTank();
                int out = Math.min(left, has[tank]);
                has[tank] -= out;
                left -= out;
            }
        }

        private int fullestTank() {
            int tank = fromAft[0];
            for (int i = 1; i < tanks; i++) {
                int other = fromAft[i];
                if (has[other] > has[tank] || has[other] == has[tank] && other < tank) {
                    tank = other;
                }
            }
            return tank;
        }

        int weight() {
            int sum = 0;
            for (int i = 0; i < n; i++) {
                sum += has[i];
            }
            return sum;
        }

        int momentSum() {
            int sum = 0;
            for (int i = 0; i < n; i++) {
                sum += x[i] * has[i];
            }
            return sum;
        }

        int listSum() {
            int sum = 0;
            for (int i = 0; i < n; i++) {
                sum += y[i] * has[i];
            }
            return sum;
        }

        int tanksHold() {
            int sum = 0;
            for (int i = 0; i < tanks; i++) {
                sum += has[fromAft[i]];
            }
            return sum;
        }

        int tanksMoment() {
            int sum = 0;
            for (int i = 0; i < tanks; i++) {
                sum += x[fromAft[i]] * has[fromAft[i]];
            }
            return sum;
        }

        int thatHold() {
            int many = 0;
            for (int i = 0; i < n; i++) {
                many += most[i] > 0 ? 1 : 0;
            }
            return many;
        }

        /** The load that is number i of those that can hold something. */
        int holding(int i) {
            int left = i;
            for (int load = 0; load < n; load++) {
                if (most[load] > 0) {
                    if (left == 0) {
                        return load;
                    }
                    left--;
                }
            }
            return NONE;
        }

        void save() {
            System.arraycopy(has, 0, saved, 0, MOST_LOADS);
        }

        void restore() {
            System.arraycopy(saved, 0, has, 0, MOST_LOADS);
        }
    }

    /** The layers, and the hull that is squeezed in them. */
    private static final class Water {
        final int[] layerDepth = new int[MOST_LAYERS];
        final int[] layerDensity = new int[MOST_LAYERS];
        int layers;
        int volume = 1000;
        int squeeze;

        int addLayer(int depth, int density) {
            if (layers >= MOST_LAYERS || layers > 0 && depth <= layerDepth[layers - 1]) {
                return NONE;
            }
            layerDepth[layers] = depth;
            layerDensity[layers] = density;
            layers++;
            return layers;
        }

        int densityAt(int depth) {
            int density = 1000;
            for (int i = 0; i < layers && layerDepth[i] <= depth; i++) {
                density = layerDensity[i];
            }
            return density;
        }

        int liftAt(int depth) {
            return (volume - squeeze * depth / 10) * densityAt(depth) / 1000;
        }
    }

    /** What hangs in the water now, and what was kept of it. */
    private static final class Boat {
        final Loads loads = new Loads();
        final Water water = new Water();
        int baseWeight;
        int baseMoment;
        int baseList;
        final int[] slacks = {5, 200, 50};
        int air;
        int day;
        int r = 1;
        final int[][] keptHas = new int[MOST_KEPT][MOST_LOADS];
        /** How many loads were kept under each number, NONE if nothing was. */
        final int[] keptLoads = {NONE, NONE, NONE};
        final int[] keptAir = new int[MOST_KEPT];
        final int[] keptDay = new int[MOST_KEPT];
        final int[] keptR = new int[MOST_KEPT];
        final Span sums = new Span();
        private final Span part = new Span();

        int weightNow() {
            return baseWeight + loads.weight();
        }

        int heavyAt(int depth) {
            return weightNow() - water.liftAt(depth);
        }

        int momentNow() {
            return baseMoment + loads.momentSum();
        }

        int listNow() {
            return baseList + loads.listSum();
        }

        boolean isLevel() {
            return Math.abs(momentNow()) <= slacks[MOMENT] && Math.abs(listNow()) <= slacks[LIST];
        }

        boolean isBalanced(int depth) {
            return Math.abs(heavyAt(depth)) <= slacks[HEAVY] && isLevel();
        }

        int numberNow(int what, int depth) {
            if (what == HEAVY) {
                return heavyAt(depth);
            }
            return what == MOMENT ? momentNow() : listNow();
        }

        int draw(int n) {
            r = r * 1103515245 + 12345;
            return n > 0 ? (r >>> 16) % n : 0;
        }

        void keepUnder(int i) {
            System.arraycopy(loads.has, 0, keptHas[i], 0, MOST_LOADS);
            keptLoads[i] = loads.n;
            keptAir[i] = air;
            keptDay[i] = day;
            keptR[i] = r;
        }

        void takeAgain(int i) {
            System.arraycopy(keptHas[i], 0, loads.has, 0, keptLoads[i]);
            air = keptAir[i];
            day = keptDay[i];
            r = keptR[i];
        }

        /** Leaves in sums what all tanks may have together so that tanks alone could balance: whether there is one. */
        boolean findSums(int depth) {
            int rest = heavyAt(depth) - loads.tanksHold();
            int restMoment = momentNow() - loads.tanksMoment();
            sums.reset(0, FAR);
            sums.narrow(rest, 1, -slacks[HEAVY], slacks[HEAVY]);
            keepSums(restMoment, true, -FAR, slacks[MOMENT]);
            keepSums(restMoment, false, -slacks[MOMENT], FAR);
            return !sums.isEmpty();
        }

        /**
         * Keeps the sums whose moment, put to tanks from one end on, is from least to most. From aft on the
         * moment bends up as the sum grows, from forward on it bends down: so these sums are one span.
         */
        private void keepSums(int restMoment, boolean aftFirst, long least, long most) {
            long moment = restMoment;
            long low = FAR;
            long high = -FAR;
            if (moment >= least && moment <= most) {
                low = 0;
                high = 0;
            }
            long sum = 0;
            for (int i = 0; i < loads.tanks; i++) {
                int tank = loads.fromAft[aftFirst ? i : loads.tanks - 1 - i];
                part.reset(0, loads.most[tank]);
                part.narrow(moment, loads.x[tank], least, most);
                if (!part.isEmpty()) {
                    low = Math.min(low, sum + part.low);
                    high = Math.max(high, sum + part.high);
                }
                sum += loads.most[tank];
                moment += (long) loads.x[tank] * loads.most[tank];
            }
            sums.narrow(0, 1, low, high);
        }
    }

    /** Reads signs one behind the other, and remembers the first one that can't stand where it is. */
    private static final class Cursor {
        private int[] signs = new int[0];
        private int limit;
        int at;
        int bad = NONE;

        void begin(int[] read, int from, int to) {
            signs = read;
            at = Math.max(0, from);
            limit = Math.min(to, read.length);
            bad = NONE;
        }

        /** The sign that comes, NONE at the end or behind a bad one. */
        int peek() {
            return bad == NONE && at >= 0 && at < limit ? signs[at] : NONE;
        }

        void fail(int p) {
            if (bad == NONE) {
                bad = p;
            }
        }

        boolean take(int sign) {
            boolean comes = peek() == sign;
            at += comes ? 1 : 0;
            return comes;
        }

        void expect(int sign) {
            if (peek() == sign) {
                at++;
            } else {
                fail(at);
            }
        }

        int number(int digits) {
            if (!isDigit(peek())) {
                fail(at);
            }
            int v = 0;
            for (int i = 0; i < digits && isDigit(peek()); i++) {
                v = v * 10 + peek() - '0';
                at++;
            }
            return v;
        }

        /** A load's number of one or two digits; its last digit can't stand if the number is not below the bound. */
        int loadBelow(int bound) {
            if (!isDigit(peek())) {
                fail(at);
                return 0;
            }
            int v = peek() - '0';
            at++;
            if (isDigit(peek())) {
                v = v * 10 + peek() - '0';
                at++;
            }
            if (v >= bound) {
                fail(at - 1);
            }
            return v;
        }

        /** Where many signs, read as far as the limit, can't stand; NONE if all can. */
        int finish(int many) {
            if (at < limit) {
                fail(at);
            }
            if (many > limit) {
                fail(limit);
            }
            return bad;
        }
    }

    /** The morning's book. */
    private static final class Book {
        private final Boat boat;
        private final Loads loads;
        private final Cursor cursor = new Cursor();
        private final int[] signs = new int[MOST_BOOK];
        private int length;
        int lines;
        private final int[] lineLoad = new int[MOST_LINES];
        private final int[] lineStart = new int[MOST_LINES];
        final int[] had = new int[MOST_LINES];
        int cameIn;
        int wentOut;
        private int heavyNow;
        private int momentNow;
        private int listNow;
        private int densityNow;

        Book(Boat aBoat) {
            boat = aBoat;
            loads = aBoat.loads;
        }

        /** Takes a text as the book: NONE, or the first sign that can't stand there. */
        int read(int[] text, int many) {
            cursor.begin(text, 0, Math.min(many, MOST_BOOK));
            if (many > 0) {
                readLine();
            }
            for (int turn = 0; turn < MOST_BOOK && cursor.take(';'); turn++) {
                readLine();
            }
            int bad = cursor.finish(many);
            if (bad == NONE) {
                length = many;
                System.arraycopy(text, 0, signs, 0, length);
                markLines();
            }
            return bad;
        }

        private void readLine() {
            cursor.loadBelow(LOADS_IN_BOOK);
            cursor.expect('=');
            expression(0);
        }

        private void markLines() {
            lines = 0;
            for (int p = 1; p < length; p++) {
                if (signs[p] == '=' && lines < MOST_LINES) {
                    int tens = p >= 2 && isDigit(signs[p - 2]) ? signs[p - 2] - '0' : 0;
                    lineLoad[lines] = tens * 10 + signs[p - 1] - '0';
                    lineStart[lines] = p + 1;
                    lines++;
                }
            }
        }

        int valueOf(int line) {
            heavyNow = boat.heavyAt(0);
            momentNow = boat.momentNow();
            listNow = boat.listNow();
            densityNow = boat.water.densityAt(0);
            cursor.begin(signs, lineStart[line], length);
            return expression(0);
        }

        private int expression(int open) {
            int v = product(open);
            for (int turn = 0; turn < MOST_BOOK; turn++) {
                if (cursor.take('+')) {
                    v += product(open);
                } else if (cursor.take('-')) {
                    v -= product(open);
                } else {
                    break;
                }
            }
            return v;
        }

        private int product(int open) {
            int v = 1;
            for (int turn = 0; turn < MOST_BOOK; turn++) {
                for (int minus = 0; minus < MOST_BOOK && cursor.take('-'); minus++) {
                    v = -v;
                }
                v *= thing(open);
                if (!cursor.take('*')) {
                    break;
                }
            }
            return v;
        }

        private int thing(int open) {
            int sign = cursor.peek();
            if (isDigit(sign)) {
                return cursor.number(4);
            }
            if (sign == '(' && open < MOST_OPEN) {
                cursor.at++;
                int v = expression(open + 1);
                cursor.expect(')');
                return v;
            }
            if (sign == 'n') {
                cursor.at++;
                int load = cursor.loadBelow(LOADS_IN_BOOK);
                return loads.there(load) ? loads.has[load] : 0;
            }
            if (sign != 'h' && sign != 'm' && sign != 'l' && sign != 'd' && sign != 'w') {
                cursor.fail(cursor.at);
                return 0;
            }
            cursor.at++;
            return letter(sign);
        }

        private int letter(int sign) {
            switch (sign) {
                case 'h':
                    return heavyNow;
                case 'm':
                    return momentNow;
                case 'l':
                    return listNow;
                case 'd':
                    return boat.day;
                default:
                    return densityNow;
            }
        }

        /** Does the lines in order, and notes what their loads had and what came in and went out. */
        int doMorning() {
            int done = 0;
            cameIn = 0;
            wentOut = 0;
            for (int i = 0; i < lines; i++) {
                int load = lineLoad[i];
                had[i] = NONE;
                if (loads.isA(load, TANK)) {
                    had[i] = loads.has[load];
                    loads.put(load, valueOf(i));
                    cameIn += Math.max(0, loads.has[load] - had[i]);
                    wentOut += Math.max(0, had[i] - loads.has[load]);
                    done++;
                }
            }
            return done;
        }
    }

    /** The pumps, and what they can do. */
    private static final class Pumps {
        private final Boat boat;
        private final Loads loads;
        private final Span span = new Span();
        int n;
        private final int[] from = new int[MOST_PUMPS];
        private final int[] to = new int[MOST_PUMPS];
        final int[] rate = new int[MOST_PUMPS];
        private final boolean[] quiet = new boolean[MOST_PUMPS];
        /** What was found last: how long, and with best() what is then, with trim() the row. */
        int minutes;
        int heavyThen;
        int momentThen;
        private int listThen;
        final int[] found = new int[4];
        int foundLength;

        Pumps(Boat aBoat) {
            boat = aBoat;
            loads = aBoat.loads;
        }

        boolean there(int i) {
            return i >= 0 && i < n;
        }

        int add(int aFrom, int aTo, int aRate, boolean isQuiet) {
            if (n >= MOST_PUMPS) {
                return NONE;
            }
            from[n] = aFrom;
            to[n] = aTo;
            rate[n] = aRate;
            quiet[n] = isQuiet;
            n++;
            return n - 1;
        }

        boolean can(int pump, int run) {
            int much = run * rate[pump];
            return takes(from[pump], -much) && takes(to[pump], much);
        }

        /** Whether an end can have so much more; the sea always can. */
        private boolean takes(int end, int more) {
            return !loads.there(end) || between(loads.has[end] + more, 0, loads.most[end]);
        }

        void move(int pump, int run) {
            int much = run * rate[pump];
            if (loads.there(from[pump])) {
                loads.has[from[pump]] -= much;
            }
            if (loads.there(to[pump])) {
                loads.has[to[pump]] += much;
            }
        }

        private int weightGain(int pump) {
            return (loads.there(to[pump]) ? 1 : 0) - (loads.there(from[pump]) ? 1 : 0);
        }

        private int momentGain(int pump) {
            return (loads.there(to[pump]) ? loads.x[to[pump]] : 0)
                    - (loads.there(from[pump]) ? loads.x[from[pump]] : 0);
        }

        private int listGain(int pump) {
            return (loads.there(to[pump]) ? loads.y[to[pump]] : 0)
                    - (loads.there(from[pump]) ? loads.y[from[pump]] : 0);
        }

        void findBest(int pump, int depth) {
            int heavy = boat.heavyAt(depth);
            int moment = boat.momentNow();
            minutes = 0;
            heavyThen = heavy;
            momentThen = moment;
            for (int size = 1; size <= LONGEST_RUN; size++) {
                considerRun(pump, -size, heavy, moment);
                considerRun(pump, size, heavy, moment);
            }
        }

        /** Takes a run that is better than the best one till now; of equal ones the one asked first stays. */
        private void considerRun(int pump, int run, int heavy, int moment) {
            if (!can(pump, run)) {
                return;
            }
            int h = heavy + run * rate[pump] * weightGain(pump);
            int m = moment + run * rate[pump] * momentGain(pump);
            boolean lighter = Math.abs(h) < Math.abs(heavyThen);
            boolean alike = Math.abs(h) == Math.abs(heavyThen);
            if (lighter || alike && Math.abs(m) < Math.abs(momentThen)) {
                minutes = run;
                heavyThen = h;
                momentThen = m;
            }
        }

        void findTrim(int depth, boolean quietOnly) {
            foundLength = 0;
            minutes = 2 * LONGEST_RUN + 1;
            for (int pump = 0; pump < n; pump++) {
                for (int run = -LONGEST_RUN; run <= LONGEST_RUN; run++) {
                    boolean fewer = run != 0 && Math.abs(run) < minutes;
                    if (fewer && (quiet[pump] || !quietOnly) && can(pump, run)) {
                        move(pump, run);
                        considerFirst(pump, run, depth, quietOnly);
                        move(pump, -run);
                    }
                }
            }
        }

        /** Behind the first pump's run: rows come here the least first, so only fewer minutes are better. */
        private void considerFirst(int pump, int run, int depth, boolean quietOnly) {
            int size = Math.abs(run);
            if (boat.isBalanced(depth)) {
                noteFound(pump, run, NONE, 0);
                return;
            }
            heavyThen = boat.heavyAt(depth);
            momentThen = boat.momentNow();
            listThen = boat.listNow();
            for (int other = 0; other < n; other++) {
                if (other != pump && (quiet[other] || !quietOnly)) {
                    int otherRun = fewestOf(other);
                    if (otherRun != 0 && size + Math.abs(otherRun) < minutes) {
                        noteFound(pump, run, other, otherRun);
                    }
                }
            }
        }

        private void noteFound(int pump, int run, int other, int otherRun) {
            found[0] = pump;
            found[1] = run;
            found[2] = other;
            found[3] = otherRun;
            foundLength = other == NONE ? 2 : 4;
            minutes = Math.abs(run) + Math.abs(otherRun);
        }

        /** The fewest minutes with which a pump balances what is not balanced now, 0 if none do. */
        private int fewestOf(int pump) {
            span.reset(-LONGEST_RUN, LONGEST_RUN);
            boundByEnd(from[pump], -rate[pump]);
            boundByEnd(to[pump], rate[pump]);
            boundBySlack(heavyThen, rate[pump] * weightGain(pump), HEAVY);
            boundBySlack(momentThen, rate[pump] * momentGain(pump), MOMENT);
            boundBySlack(listThen, rate[pump] * listGain(pump), LIST);
            if (span.isEmpty()) {
                return 0;
            }
            // It is not balanced now, so 0 is not in the span: all of it is one way.
            return (int) (span.low > 0 ? span.low : span.high);
        }

        private void boundByEnd(int end, int step) {
            if (loads.there(end)) {
                span.narrow(loads.has[end], step, 0, loads.most[end]);
            }
        }

        private void boundBySlack(int now, int step, int what) {
            span.narrow(now, step, -boat.slacks[what], boat.slacks[what]);
        }
    }

    /** A boat that goes down or up by seconds. */
    private static final class Dive {
        private final Boat boat;
        private int weight;
        private int push;
        int tenths;
        int speed;

        Dive(Boat aBoat) {
            boat = aBoat;
        }

        /** What a moment adds to the speed each second. */
        static int pushOf(int moment) {
            return moment / 2000;
        }

        void begin(int depth, int aPush) {
            weight = boat.weightNow();
            push = aPush;
            tenths = depth * 10;
            speed = 0;
        }

        void goSecond() {
            int heavy = weight - boat.water.liftAt(tenths / 10);
            speed = clamp(speed + heavy / 20 + push, -30, 30);
            tenths += speed;
            if (!between(tenths, 0, DEEPEST * 10)) {
                tenths = clamp(tenths, 0, DEEPEST * 10);
                speed = 0;
            }
        }

        /** The first second, up to n, behind which it is at a depth or below, or NONE. */
        int arrives(int target, int n) {
            int second = 0;
            while (tenths < target * 10 && second < n) {
                goSecond();
                second++;
            }
            return tenths >= target * 10 ? second : NONE;
        }
    }

    /** What may be going on, told as texts, and what gauges showed. */
    private static final class Tellings {
        private final Boat boat;
        private final Loads loads;
        private final Cursor cursor = new Cursor();
        int n;
        /** By telling, of heavy, moment and list: what is more from the first, and what comes an hour. */
        private final int[][] more = new int[MOST_TELLINGS][3];
        private final int[][] hourly = new int[MOST_TELLINGS][3];
        int gauges;
        private final int[] gaugeHour = new int[MOST_GAUGES];
        private final int[] gaugeDepth = new int[MOST_GAUGES];
        private final int[] gaugeWhat = new int[MOST_GAUGES];
        private final int[] gaugeNumber = new int[MOST_GAUGES];

        Tellings(Boat aBoat) {
            boat = aBoat;
            loads = aBoat.loads;
        }

        /** Takes a text as one more telling: NONE, or the first sign that can't stand there. */
        int read(int[] text, int many) {
            for (int what = HEAVY; what <= LIST; what++) {
                more[n][what] = 0;
                hourly[n][what] = 0;
            }
            cursor.begin(text, 0, Math.min(many, MOST_TELLING));
            if (many > 0) {
                readTerm();
            }
            for (int turn = 0; turn < MOST_TELLING && cursor.take(';'); turn++) {
                readTerm();
            }
            int bad = cursor.finish(many);
            n += bad == NONE ? 1 : 0;
            return bad;
        }

        private void readTerm() {
            int term = cursor.peek();
            if (term != 'l' && term != 'v' && term != 'b') {
                cursor.fail(cursor.at);
                return;
            }
            cursor.at++;
            int load = cursor.loadBelow(loads.n);
            int other = term == 'v' ? readOther(load) : NONE;
            cursor.expect(',');
            int way = term == 'b' && cursor.take('-') ? -1 : 1;
            int number = way * cursor.number(3);
            if (term == 'b') {
                addTo(more[n], load, number);
            } else {
                addTo(hourly[n], load, term == 'v' ? -number : number);
                addTo(hourly[n], other, number);
            }
        }

        private int readOther(int load) {
            cursor.expect('-');
            int other = cursor.loadBelow(loads.n);
            if (other == load) {
                cursor.fail(cursor.at - 1);
            }
            return other;
        }

        private void addTo(int[] numbers, int load, int much) {
            if (loads.there(load)) {
                numbers[HEAVY] += much;
                numbers[MOMENT] += loads.x[load] * much;
                numbers[LIST] += loads.y[load] * much;
            }
        }

        int addGauge(int hour, int depth, int what, int number) {
            if (gauges >= MOST_GAUGES) {
                return NONE;
            }
            gaugeHour[gauges] = hour;
            gaugeDepth[gauges] = depth;
            gaugeWhat[gauges] = what;
            gaugeNumber[gauges] = number;
            gauges++;
            return gauges;
        }

        int numberOf(int telling, int hour, int depth, int what) {
            return boat.numberNow(what, depth) + more[telling][what] + hour * hourly[telling][what];
        }

        private int farFrom(int gauge, int telling) {
            int number = numberOf(telling, gaugeHour[gauge], gaugeDepth[gauge], gaugeWhat[gauge]);
            return Math.abs(number - gaugeNumber[gauge]);
        }

        int farFromGauges(int telling) {
            int sum = 0;
            for (int gauge = 0; gauge < gauges; gauge++) {
                sum += farFrom(gauge, telling);
            }
            return sum;
        }

        /** The tellings (bits) that no gauge is farther from than within. */
        int fitting(int within) {
            int bits = 0;
            for (int telling = 0; telling < n; telling++) {
                boolean fit = true;
                for (int gauge = 0; gauge < gauges; gauge++) {
                    fit = fit && farFrom(gauge, telling) <= within;
                }
                bits |= fit ? 1 << telling : 0;
            }
            return bits;
        }

        /**
         * Of the tellings left (bits) the most that a number, known within so much, would not tell apart. How far
         * two tellings are from one another is the same at each depth.
         */
        int mostTogether(int left, int within, int hour, int what) {
            int most = 0;
            for (int one = 0; one < n; one++) {
                int together = 0;
                for (int other = 0; other < n; other++) {
                    boolean both = (left >> one & 1) == 1 && (left >> other & 1) == 1;
                    int apart = Math.abs(apartAt(one, other, hour, what));
                    together += both && apart <= within ? 1 : 0;
                }
                most = Math.max(most, together);
            }
            return most;
        }

        private int apartAt(int one, int other, int hour, int what) {
            return more[one][what] - more[other][what] + hour * (hourly[one][what] - hourly[other][what]);
        }
    }

    /** The stores, eaten by days. */
    private static final class Stores {
        private final Boat boat;
        private final Loads loads;
        final int[] eaten = new int[MOST_LOADS];
        final int[] percent = new int[MOST_LOADS];
        final int[] wasteTo = new int[MOST_LOADS];
        /** The pair that was found last, and the days it gives: above LONGEST_DAYS, if there is no end. */
        int shiftFrom;
        int shiftTo;
        int shiftDays;

        Stores(Boat aBoat) {
            boat = aBoat;
            loads = aBoat.loads;
        }

        /** A day goes by: whether anything was eaten. */
        boolean goDay() {
            boolean any = false;
            for (int i = 0; i < loads.n; i++) {
                int gone = loads.kind[i] == STORE ? Math.min(eaten[i], loads.has[i]) : 0;
                if (gone > 0) {
                    any = true;
                    loads.has[i] -= gone;
                    loads.give(wasteTo[i], gone * percent[i] / 100);
                }
            }
            boat.day++;
            return any;
        }

        int emptyOnes() {
            int many = 0;
            for (int i = 0; i < loads.n; i++) {
                many += loads.kind[i] == STORE && loads.has[i] == 0 ? 1 : 0;
            }
            return many;
        }

        /** How many days from now tanks can't balance any more, or NO_WAY. */
        int daysInReach(int depth) {
            int today = boat.day;
            loads.save();
            int answer = NO_WAY;
            // When nothing is eaten on a day, all days behind it are like it.
            boolean goesOn = true;
            for (int k = 0; k <= LONGEST_DAYS && goesOn; k++) {
                if (!boat.findSums(depth)) {
                    answer = k;
                    goesOn = false;
                } else {
                    goesOn = goDay();
                }
            }
            loads.restore();
            boat.day = today;
            return answer;
        }

        /** Finds the first of the best pairs: whether there is one. */
        boolean findShift(int depth) {
            shiftDays = NONE;
            for (int a = 0; a < loads.n; a++) {
                for (int b = 0; b < loads.n; b++) {
                    if (a != b && canShift(a, b)) {
                        considerShift(a, b, depth);
                    }
                }
            }
            return shiftDays != NONE;
        }

        private boolean canShift(int a, int b) {
            return loads.isA(a, STORE) && loads.isA(b, STORE) && loads.has[a] > 0
                    && loads.room(b) >= loads.has[a];
        }

        private void considerShift(int a, int b, int depth) {
            int much = loads.has[a];
            loads.has[a] = 0;
            loads.has[b] += much;
            int days = daysInReach(depth);
            loads.has[a] = much;
            loads.has[b] -= much;
            int lasting = days == NO_WAY ? LONGEST_DAYS + 1 : days;
            if (lasting > shiftDays) {
                shiftDays = lasting;
                shiftFrom = a;
                shiftTo = b;
            }
        }
    }
}
