/** A market of pools with stakes of liquidity between ticks; README.md tells how to use it. */
public final class TickPools {
    public static final int NONE = -1;

    // A second "no" of the document: what is asked is well formed, but it can't be or is not known.
    private static final int CANNOT = -2;
    private static final int TOO_POOR = -3;

    private static final int TOP_TICK = 40;
    private static final int ZONES = 40;
    private static final int MOST_AMOUNT = 9999999;
    private static final int MOST_PASSED = 9999;
    private static final int MOST_TIME = 9999999;
    private static final int MOST_ADDED = 99999;
    private static final int MOST_LIQUIDITY = 999999;
    private static final int MOST_THINGS = 5;
    private static final int MOST_PEOPLE = 4;
    private static final int MOST_POOLS = 5;
    private static final int MOST_STAKES = 12;
    private static final int MOST_BYTES = 400;
    private static final int PARTS = 10;
    private static final int MOST_IN_RING = 10000;
    // Twice what halving any range of an int can need.
    private static final int MOST_HALVINGS = 64;

    private final Tape tape;
    private final Market live;
    // One spare serves all: what a text tells before it counts, what a bundle may have to undo,
    // and swaps that are only asked about. No two of these go on at once.
    private final Market spare;
    private final MarketReader marketReader;
    private final Script script;
    private final Runner runner;
    private final Trade trade;
    private final Finder finder;

    public TickPools() {
        tape = new Tape();
        live = new Market();
        spare = new Market();
        trade = new Trade();
        marketReader = new MarketReader(tape, spare);
        script = new Script(tape);
        runner = new Runner(live, script, trade);
        finder = new Finder(trade);
    }

    public int feed(int a, int b, int c, int d, int e) {
        if (!tape.hasRoom()) {
            return NONE;
        }
        tape.append(a);
        tape.append(b);
        tape.append(c);
        tape.append(d);
        tape.append(e);
        return tape.length;
    }

    public int end(int n) {
        if (n < 0 || n > tape.length) {
            return NONE;
        }
        tape.length = n;
        return n;
    }

    public int market() {
        boolean good = marketReader.read();
        tape.length = 0;
        if (!good) {
            return CANNOT - tape.fault;
        }
        live.copyFrom(spare);
        return live.pools;
    }

    public int bundle(int person) {
        if (!live.hasPerson(person)) {
            return NONE;
        }
        boolean good = script.compile();
        tape.length = 0;
        if (!good) {
            return CANNOT - tape.fault;
        }
        spare.copyFrom(live);
        runner.start(person);
        for (int turn = 0; turn < Runner.MOST_TURNS && runner.goesOn(); turn++) {
            runner.turn();
        }
        if (runner.failure != 0) {
            live.copyFrom(spare);
            return CANNOT - runner.failure;
        }
        return runner.done;
    }

    public int root(int tick) {
        return isTick(tick) ? Curve.rootAt(tick) : NONE;
    }

    public int purse(int person, int thing) {
        return live.hasPerson(person) && live.hasThing(thing) ? live.purseOf(person, thing) : NONE;
    }

    public int pool(int pool, int what) {
        Pool p = live.poolAt(pool);
        if (p == null) {
            return NONE;
        }
        switch (what) {
            case 0: return p.first;
            case 1: return p.second;
            case 2: return p.fee;
            case 3: return p.cut;
            case 4: return p.spacing;
            case 5: return p.zone;
            case 6: return p.root;
            case 7: return (int) live.liquidityAt(pool, p.zone);
            case 8: return p.held[0];
            case 9: return p.held[1];
            case 10: return p.house[0];
            case 11: return p.house[1];
            case 12: return (int) live.overIn(pool, 0);
            case 13: return (int) live.overIn(pool, 1);
            default: return NONE;
        }
    }

    public int depth(int pool, int zone) {
        return live.poolAt(pool) != null && isZone(zone) ? (int) live.liquidityAt(pool, zone) : NONE;
    }

    public int stake(int stake, int what) {
        Stake s = live.stakeAt(stake);
        Pool p = s == null ? null : live.poolAt(s.pool);
        if (p == null) {
            return NONE;
        }
        switch (what) {
            case 0: return s.person;
            case 1: return s.pool;
            case 2: return s.low;
            case 3: return s.high;
            case 4: return s.auto;
            case 5: return s.liquidity;
            case 6: return (int) s.liesIn(p, s.liquidity, 0, false);
            case 7: return (int) s.liesIn(p, s.liquidity, 1, false);
            case 8: return (int) s.owed(0);
            case 9: return (int) s.owed(1);
            case 10: return s.reaches(p.zone) ? 1 : 0;
            default: return NONE;
        }
    }

    public int add(int person, int pool, int low, int high, int auto, int liquidity) {
        return live.addStake(person, pool, low, high, auto, liquidity);
    }

    public int take(int stake, int liquidity) {
        Stake s = live.stakeAt(stake);
        if (s == null || liquidity < 1 || liquidity > s.liquidity) {
            return NONE;
        }
        live.withdraw(stake, liquidity);
        return live.stakes;
    }

    public int pay(int stake) {
        Stake s = live.stakeAt(stake);
        Pool p = s == null ? null : live.poolAt(s.pool);
        if (p == null) {
            return NONE;
        }
        s.settle();
        int first = (int) s.debt[0];
        int second = (int) s.debt[1];
        live.payOut(p, 0, s.person, first);
        live.payOut(p, 1, s.person, second);
        s.debt[0] = 0;
        s.debt[1] = 0;
        return first + second;
    }

    public int levy(int pool) {
        Pool p = live.poolAt(pool);
        if (p == null) {
            return NONE;
        }
        int first = p.house[0];
        int second = p.house[1];
        live.payOut(p, 0, 0, first);
        live.payOut(p, 1, 0, second);
        p.house[0] = 0;
        p.house[1] = 0;
        return first + second;
    }

    public int in(int person, int pool, int side, int amount, int end) {
        Pool p = live.poolAt(pool);
        if (p == null || !live.hasPerson(person) || !isSide(side) || !isTick(end)) {
            return NONE;
        }
        if (amount < 1 || amount > live.purseOf(person, p.thingOn(side))) {
            return NONE;
        }
        trade.pour(live, person, pool, side, amount, end, true);
        return (int) trade.gave;
    }

    public int out(int person, int pool, int side, int amount) {
        Pool p = live.poolAt(pool);
        if (p == null || !live.hasPerson(person) || !isSide(side) || !isAmount(amount)) {
            return NONE;
        }
        // On paper first: what can't be, or can't be paid, must leave nothing behind.
        trade.drain(live, NONE, pool, side, amount, false);
        if (trade.left > 0) {
            return CANNOT;
        }
        if (trade.paid > live.purseOf(person, p.thingOn(side))) {
            return TOO_POOR;
        }
        trade.drain(live, person, pool, side, amount, true);
        return (int) trade.paid;
    }

    public int passes(int n) {
        if (live.things == 0 || n < 1 || n > MOST_PASSED || live.time + n > MOST_TIME) {
            return NONE;
        }
        live.time += n;
        return live.time;
    }

    public int mean(int pool, int n) {
        Pool p = live.poolAt(pool);
        if (p == null || n < 1) {
            return NONE;
        }
        int from = live.time - n;
        if (from < p.firstMark()) {
            return CANNOT;
        }
        return (p.sumAt(live.time) - p.sumAt(from)) / n;
    }

    public int quoteIn(int pool, int side, int amount, int end, int what) {
        if (!canAsk(pool, side, amount) || !isTick(end)) {
            return NONE;
        }
        trade.pour(live, NONE, pool, side, amount, end, false);
        switch (what) {
            case 0: return (int) trade.gave;
            case 1: return (int) trade.left;
            case 2: return (int) trade.fees;
            case 3: return trade.zone;
            case 4: return trade.crossed;
            default: return NONE;
        }
    }

    public int quoteOut(int pool, int side, int amount, int what) {
        if (!canAsk(pool, side, amount) || what < 0 || what > 3) {
            return NONE;
        }
        trade.drain(live, NONE, pool, side, amount, false);
        if (trade.left > 0) {
            return CANNOT;
        }
        switch (what) {
            case 0: return (int) trade.paid;
            case 1: return (int) trade.fees;
            case 2: return trade.zone;
            default: return trade.crossed;
        }
    }

    public int round(int pool, int side, int amount) {
        if (!canAsk(pool, side, amount)) {
            return NONE;
        }
        // The way back must not find the stakes that the way there has dropped: so it is done, on the spare.
        spare.copyFrom(live);
        trade.pour(spare, NONE, pool, side, amount, lastTick(side), true);
        if (trade.gave < 1) {
            return 0;
        }
        trade.pour(spare, NONE, pool, 1 - side, trade.gave, lastTick(1 - side), true);
        return (int) trade.gave;
    }

    public int least(int pool, int side, int zone) {
        if (live.poolAt(pool) == null || !isSide(side) || !isZone(zone)) {
            return NONE;
        }
        if (!comesTo(pool, side, MOST_AMOUNT, zone)) {
            return CANNOT;
        }
        // More never moves a pool less far, so the least can be found by halving.
        int low = 1;
        int high = MOST_AMOUNT;
        for (int i = 0; i < MOST_HALVINGS && low < high; i++) {
            int middle = (low + high) / 2;
            if (comesTo(pool, side, middle, zone)) {
                high = middle;
            } else {
                low = middle + 1;
            }
        }
        return low;
    }

    public int route(int from, int to, int amount, int what) {
        if (!canWander(from, to, amount) || what < 0 || what > 4) {
            return NONE;
        }
        finder.forget(-amount);
        finder.search(live, from, to, amount);
        if (finder.bestLength == 0) {
            return CANNOT;
        }
        switch (what) {
            case 0: return (int) (finder.bestGain + amount);
            case 1: return finder.bestLength;
            default: return finder.bestPool(what - 2);
        }
    }

    public int parts(int from, int to, int amount, int what) {
        if (!canWander(from, to, amount) || what < 0 || what > 1) {
            return NONE;
        }
        spare.copyFrom(live);
        long given = 0;
        int others = 0;
        int firstRow = 0;
        for (int k = 1; k <= PARTS; k++) {
            int part = amount * k / PARTS - amount * (k - 1) / PARTS;
            if (part > 0) {
                finder.forget(-part);
                finder.search(spare, from, to, part);
                if (finder.bestLength == 0) {
                    return CANNOT;
                }
                firstRow = firstRow == 0 ? finder.bestCode() : firstRow;
                others += finder.bestCode() == firstRow ? 0 : 1;
                given += finder.bestGain + part;
                finder.follow(spare, from, part);
            }
        }
        return what == 0 ? (int) given : others;
    }

    public int ring(int thing, int what) {
        if (!live.hasThing(thing) || what < 0 || what > 5) {
            return NONE;
        }
        finder.forget(0);
        for (int amount = 1; amount <= MOST_IN_RING; amount *= 10) {
            finder.search(live, thing, thing, amount);
        }
        if (finder.bestLength == 0) {
            return CANNOT;
        }
        switch (what) {
            case 0: return (int) finder.bestGain;
            case 1: return finder.bestAmount;
            case 2: return finder.bestLength;
            default: return finder.bestPool(what - 3);
        }
    }

    public int total(int thing) {
        return live.hasThing(thing) ? live.allOf(thing) : NONE;
    }

    public int count(int what) {
        switch (what) {
            case 0: return live.things;
            case 1: return live.people;
            case 2: return live.pools;
            case 3: return live.stakes;
            case 4: return live.time;
            case 5: return live.crossed;
            case 6: return tape.length;
            default: return NONE;
        }
    }

    private boolean canAsk(int pool, int side, int amount) {
        return live.poolAt(pool) != null && isSide(side) && isAmount(amount);
    }

    private boolean canWander(int from, int to, int amount) {
        return live.hasThing(from) && live.hasThing(to) && from != to && isAmount(amount);
    }

    private boolean comesTo(int pool, int side, int amount, int zone) {
        trade.pour(live, NONE, pool, side, amount, lastTick(side), false);
        return side == 0 ? trade.zone <= zone : trade.zone >= zone;
    }

    private static boolean isTick(int tick) {
        return tick >= 0 && tick <= TOP_TICK;
    }

    private static boolean isZone(int zone) {
        return zone >= 0 && zone < ZONES;
    }

    private static boolean isSide(int side) {
        return side == 0 || side == 1;
    }

    private static boolean isAmount(int amount) {
        return amount >= 1 && amount <= MOST_AMOUNT;
    }

    private static int lastTick(int side) {
        return side == 0 ? 0 : TOP_TICK;
    }

    /** Roots of ticks, and what lies between roots. */
    private static final class Curve {
        private static final int SCALE = 100000;
        private static final long UNIT_PRICE = 10000000000L;

        private static final int[] ROOTS = {
            38554, 40436, 42409, 44479, 46650, 48927, 51315, 53820, 56447, 59202,
            62092, 65122, 68301, 71635, 75131, 78798, 82644, 86678, 90909, 95346,
            100000, 104880, 110000, 115368, 121000, 126905, 133100, 139596, 146410, 153556,
            161051, 168911, 177156, 185802, 194871, 204383, 214358, 224821, 235794, 247303,
            259374
        };

        static int rootAt(int tick) {
            int t = tick < 0 ? 0 : tick;
            return t < ROOTS.length ? ROOTS[t] : ROOTS[ROOTS.length - 1];
        }

        static int zoneOf(int root) {
            int zone = 0;
            while (zone + 1 < ZONES && rootAt(zone + 1) <= root) {
                zone++;
            }
            return zone;
        }

        // Searching between the outermost roots alone also keeps the answer between them.
        static int startRoot(int a, int b) {
            long price = b < 1 ? UNIT_PRICE : UNIT_PRICE * a / b;
            long low = rootAt(0);
            long high = rootAt(TOP_TICK);
            for (int i = 0; i < MOST_HALVINGS && low < high; i++) {
                long middle = (low + high + 1) / 2;
                if (middle * middle <= price) {
                    low = middle;
                } else {
                    high = middle - 1;
                }
            }
            return (int) low;
        }

        // FIRST or SECOND of the document; the greatest product is below 12 * 10^6 * 10^5 * 3 * 10^5.
        static long between(boolean first, long liquidity, long a, long b, boolean up) {
            long low = a < b ? a : b;
            long high = a < b ? b : a;
            if (liquidity <= 0 || low <= 0) {
                return 0;
            }
            long top = first ? liquidity * SCALE * (high - low) : liquidity * (high - low);
            long bottom = first ? low * high : SCALE;
            long whole = top / bottom;
            return up && whole * bottom != top ? whole + 1 : whole;
        }

        static long upwards(long top, long bottom) {
            return bottom <= 0 ? 0 : (top + bottom - 1) / bottom;
        }

        // Where the root goes when the goal is not reached: by what comes in.
        static int rootBehindIn(int side, long liquidity, long root, long n) {
            if (liquidity <= 0) {
                return (int) root;
            }
            if (side == 0) {
                long scaled = liquidity * SCALE;
                return (int) upwards(scaled * root, scaled + n * root);
            }
            return (int) (root + n * SCALE / liquidity);
        }

        // The same, by what comes out.
        static int rootBehindOut(int side, long liquidity, long root, long n) {
            if (side == 0) {
                return (int) (root - upwards(n * SCALE, liquidity));
            }
            long scaled = liquidity * SCALE;
            return (int) upwards(scaled * root, scaled - n * root);
        }
    }

    /** Two things, a root and a zone, and what the pool remembers of its zones. */
    private static final class Pool {
        private static final int MOST_MARKS = 8;

        int first;
        int second;
        int fee;
        int cut;
        int spacing;
        int root;
        int zone;
        int marks;
        final int[] held;
        final int[] house;
        final int[] markTime;
        final int[] markSum;

        Pool() {
            held = new int[2];
            house = new int[2];
            markTime = new int[MOST_MARKS];
            markSum = new int[MOST_MARKS];
        }

        void open(int a, int b) {
            root = Curve.startRoot(a, b);
            zone = Curve.zoneOf(root);
            held[0] = 0;
            held[1] = 0;
            house[0] = 0;
            house[1] = 0;
            marks = 1;
            markTime[0] = 0;
            markSum[0] = 0;
        }

        void copyFrom(Pool other) {
            first = other.first;
            second = other.second;
            fee = other.fee;
            cut = other.cut;
            spacing = other.spacing;
            root = other.root;
            zone = other.zone;
            marks = other.marks;
            System.arraycopy(other.held, 0, held, 0, 2);
            System.arraycopy(other.house, 0, house, 0, 2);
            System.arraycopy(other.markTime, 0, markTime, 0, MOST_MARKS);
            System.arraycopy(other.markSum, 0, markSum, 0, MOST_MARKS);
        }

        int thingOn(int side) {
            return side == 0 ? first : second;
        }

        int heldOn(int side) {
            return isSide(side) ? held[side] : 0;
        }

        int sideOf(int thing) {
            if (thing == first) {
                return 0;
            }
            return thing == second ? 1 : NONE;
        }

        int firstMark() {
            return markTime[0];
        }

        void mark(int time) {
            int last = marks - 1;
            if (last >= 0 && last < MOST_MARKS && markTime[last] == time) {
                return;
            }
            int sum = sumAt(time);
            if (marks >= MOST_MARKS) {
                System.arraycopy(markTime, 1, markTime, 0, MOST_MARKS - 1);
                System.arraycopy(markSum, 1, markSum, 0, MOST_MARKS - 1);
                marks = MOST_MARKS - 1;
            }
            if (marks >= 0) {
                markTime[marks] = time;
                markSum[marks] = sum;
                marks++;
            }
        }

        // Zones change only where a mark is, so between two marks the sum grows evenly.
        int sumAt(int time) {
            int i = marks - 1;
            while (i > 0 && i < MOST_MARKS && markTime[i] > time) {
                i--;
            }
            if (i < 0 || i >= MOST_MARKS) {
                return 0;
            }
            int there = zone;
            if (i + 1 < marks && i + 1 < MOST_MARKS) {
                int span = markTime[i + 1] - markTime[i];
                there = span < 1 ? 0 : (markSum[i + 1] - markSum[i]) / span;
            }
            return markSum[i] + there * (time - markTime[i]);
        }
    }

    /** Liquidity of a person between two ticks of a pool. */
    private static final class Stake {
        private static final long GAIN_UNIT = 1048576;

        int person;
        int pool;
        int low;
        int high;
        int auto;
        int liquidity;
        final long[] gain;
        final long[] debt;

        Stake() {
            gain = new long[2];
            debt = new long[2];
        }

        void open(int itsPerson, int itsPool, int itsLow, int itsHigh, int itsAuto) {
            person = itsPerson;
            pool = itsPool;
            low = itsLow;
            high = itsHigh;
            auto = itsAuto;
            liquidity = 0;
            for (int side = 0; side < 2; side++) {
                gain[side] = 0;
                debt[side] = 0;
            }
        }

        void copyFrom(Stake other) {
            open(other.person, other.pool, other.low, other.high, other.auto);
            liquidity = other.liquidity;
            for (int side = 0; side < 2; side++) {
                gain[side] = other.gain[side];
                debt[side] = other.debt[side];
            }
        }

        boolean isOf(int itsPerson, int itsPool, int itsLow, int itsHigh, int itsAuto) {
            return person == itsPerson && pool == itsPool && low == itsLow && high == itsHigh
                && auto == itsAuto;
        }

        boolean reaches(int zone) {
            return low <= zone && high > zone;
        }

        long owed(int side) {
            if (side < 0 || side > 1) {
                return 0;
            }
            return debt[side] + liquidity * gain[side] / GAIN_UNIT;
        }

        void settle() {
            for (int side = 0; side < 2; side++) {
                debt[side] = owed(side);
                gain[side] = 0;
            }
        }

        long liesIn(Pool p, long amount, int side, boolean up) {
            if (side == 0) {
                if (p.zone >= high) {
                    return 0;
                }
                int from = p.zone < low ? Curve.rootAt(low) : p.root;
                return Curve.between(true, amount, from, Curve.rootAt(high), up);
            }
            if (p.zone < low) {
                return 0;
            }
            int to = p.zone >= high ? Curve.rootAt(high) : p.root;
            return Curve.between(false, amount, Curve.rootAt(low), to, up);
        }
    }

    /** All that there is at one time: purses, pools, stakes. */
    private static final class Market {
        int things;
        int people;
        int pools;
        int stakes;
        int time;
        int crossed;
        final int[] purses;
        final Pool[] poolRow;
        final Stake[] stakeRow;

        Market() {
            purses = new int[MOST_PEOPLE * MOST_THINGS];
            poolRow = new Pool[MOST_POOLS];
            for (int i = 0; i < poolRow.length; i++) {
                poolRow[i] = new Pool();
            }
            stakeRow = new Stake[MOST_STAKES];
            for (int i = 0; i < stakeRow.length; i++) {
                stakeRow[i] = new Stake();
            }
        }

        void clear() {
            things = 0;
            people = 0;
            pools = 0;
            stakes = 0;
            time = 0;
            crossed = 0;
            for (int i = 0; i < purses.length; i++) {
                purses[i] = 0;
            }
        }

        void copyFrom(Market other) {
            things = other.things;
            people = other.people;
            pools = other.pools;
            stakes = other.stakes;
            time = other.time;
            crossed = other.crossed;
            System.arraycopy(other.purses, 0, purses, 0, purses.length);
            for (int i = 0; i < pools && i < poolRow.length; i++) {
                poolRow[i].copyFrom(other.poolRow[i]);
            }
            for (int i = 0; i < stakes && i < stakeRow.length; i++) {
                stakeRow[i].copyFrom(other.stakeRow[i]);
            }
        }

        boolean hasThing(int thing) {
            return thing >= 0 && thing < things;
        }

        boolean hasPerson(int person) {
            return person >= 0 && person < people;
        }

        Pool poolAt(int pool) {
            return pool >= 0 && pool < pools && pool < poolRow.length ? poolRow[pool] : null;
        }

        Stake stakeAt(int stake) {
            return stake >= 0 && stake < stakes && stake < stakeRow.length ? stakeRow[stake] : null;
        }

        Pool newPool() {
            if (pools >= poolRow.length) {
                return null;
            }
            pools++;
            return poolRow[pools - 1];
        }

        int purseOf(int person, int thing) {
            int at = person * MOST_THINGS + thing;
            return at >= 0 && at < purses.length ? purses[at] : 0;
        }

        void putIntoPurse(int person, int thing, int amount) {
            int at = person * MOST_THINGS + thing;
            if (at >= 0 && at < purses.length) {
                purses[at] += amount;
            }
        }

        void payOut(Pool p, int side, int person, int amount) {
            if (isSide(side)) {
                p.held[side] -= amount;
                putIntoPurse(person, p.thingOn(side), amount);
            }
        }

        int allOf(int thing) {
            int all = 0;
            for (int person = 0; person < people; person++) {
                all += purseOf(person, thing);
            }
            for (int i = 0; i < pools && i < poolRow.length; i++) {
                int side = poolRow[i].sideOf(thing);
                all += poolRow[i].heldOn(side);
            }
            return all;
        }

        long liquidityAt(int pool, int zone) {
            long liquidity = 0;
            for (int i = 0; i < stakes && i < stakeRow.length; i++) {
                Stake s = stakeRow[i];
                if (s.pool == pool && s.low <= zone && s.high > zone) {
                    liquidity += s.liquidity;
                }
            }
            return liquidity;
        }

        // The tick that a swap meets next at which any stake begins or ends; NONE if it meets none.
        int nextEdge(int pool, int zone, int side) {
            int edge = NONE;
            for (int i = 0; i < stakes && i < stakeRow.length; i++) {
                Stake s = stakeRow[i];
                if (s.pool == pool) {
                    edge = nearer(edge, s.low, zone, side);
                    edge = nearer(edge, s.high, zone, side);
                }
            }
            return edge;
        }

        private static int nearer(int edge, int tick, int zone, int side) {
            if (side == 0) {
                return tick <= zone && tick > edge ? tick : edge;
            }
            return tick > zone && (edge == NONE || tick < edge) ? tick : edge;
        }

        long overIn(int pool, int side) {
            Pool p = poolAt(pool);
            if (p == null || !isSide(side)) {
                return 0;
            }
            long over = p.held[side] - p.house[side];
            for (int i = 0; i < stakes && i < stakeRow.length; i++) {
                Stake s = stakeRow[i];
                if (s.pool == pool) {
                    over -= s.liesIn(p, s.liquidity, side, false) + s.owed(side);
                }
            }
            return over;
        }

        int findStake(int person, int pool, int low, int high, int auto) {
            for (int i = 0; i < stakes && i < stakeRow.length; i++) {
                if (stakeRow[i].isOf(person, pool, low, high, auto)) {
                    return i;
                }
            }
            return NONE;
        }

        int addStake(int person, int pool, int low, int high, int auto, int liquidity) {
            Pool p = poolAt(pool);
            if (p == null || !hasPerson(person) || auto < 0 || auto > 2 || !isRange(p, low, high)
                || liquidity < 1 || liquidity > MOST_ADDED) {
                return NONE;
            }
            int found = findStake(person, pool, low, high, auto);
            int at = found == NONE ? stakes : found;
            if (at < 0 || at >= stakeRow.length) {
                return NONE;
            }
            Stake s = stakeRow[at];
            if (found == NONE) {
                // Behind the last one: as long as it is not counted, nothing has happened.
                s.open(person, pool, low, high, auto);
            }
            long first = s.liesIn(p, liquidity, 0, true);
            long second = s.liesIn(p, liquidity, 1, true);
            if (s.liquidity + liquidity > MOST_LIQUIDITY
                || first > purseOf(person, p.first) || second > purseOf(person, p.second)) {
                return NONE;
            }
            s.settle();
            s.liquidity += liquidity;
            payOut(p, 0, person, (int) -first);
            payOut(p, 1, person, (int) -second);
            stakes = found == NONE ? stakes + 1 : stakes;
            return at;
        }

        private static boolean isRange(Pool p, int low, int high) {
            return p.spacing > 0 && isTick(low) && isTick(high) && low < high
                && low % p.spacing == 0 && high % p.spacing == 0;
        }

        void withdraw(int stake, int amount) {
            Stake s = stakeAt(stake);
            Pool p = s == null ? null : poolAt(s.pool);
            if (p == null) {
                return;
            }
            s.settle();
            boolean wholly = amount >= s.liquidity;
            for (int side = 0; side < 2; side++) {
                long goes = s.liesIn(p, amount, side, false) + (wholly ? s.debt[side] : 0);
                payOut(p, side, s.person, (int) goes);
            }
            s.liquidity -= amount;
            if (wholly) {
                remove(stake);
            }
        }

        // The object goes behind the others and serves again, so that none is ever made anew.
        private void remove(int stake) {
            Stake gone = stakeAt(stake);
            for (int i = stake; i + 1 < stakes && i + 1 < stakeRow.length && i >= 0; i++) {
                stakeRow[i] = stakeRow[i + 1];
            }
            if (gone != null && stakes > 0 && stakes <= stakeRow.length) {
                stakes--;
                stakeRow[stakes] = gone;
            }
        }

        // From the last to the first: those still to be looked at keep their numbers.
        void dropAt(int pool, int side, int tick) {
            for (int i = stakes - 1; i >= 0 && i < stakeRow.length; i--) {
                Stake s = stakeRow[i];
                boolean far = side == 0 ? s.auto == 2 && s.low == tick : s.auto == 1 && s.high == tick;
                if (far && s.pool == pool) {
                    withdraw(i, s.liquidity);
                }
            }
        }

        void share(int pool, int side, long fee) {
            Pool p = poolAt(pool);
            long liquidity = p == null ? 0 : liquidityAt(pool, p.zone);
            if (liquidity < 1 || !isSide(side)) {
                return;
            }
            long cut = fee * p.cut / 100;
            p.house[side] += (int) cut;
            long gain = (fee - cut) * Stake.GAIN_UNIT / liquidity;
            for (int i = 0; i < stakes && i < stakeRow.length; i++) {
                Stake s = stakeRow[i];
                if (s.pool == pool && s.reaches(p.zone)) {
                    s.gain[side] += gain;
                }
            }
        }
    }

    /** One swap, stepped from tick to tick: done to its market, or on paper alone. */
    private static final class Trade {
        // Each step but the last leaves a zone for good, so that forty-one are the most there can be.
        private static final int MOST_STEPS = 1000;

        private Market market;
        private Pool pool;
        private int poolNumber;
        private int side;
        private boolean real;
        private int root;
        private boolean atEnd;
        private int crossedTick;
        int zone;
        int crossed;
        long left;
        long gave;
        long paid;
        long fees;

        // What comes in is told. A person of NONE: no purse is touched.
        void pour(Market m, int person, int number, int itsSide, long amount, int end, boolean isReal) {
            if (!start(m, number, itsSide, amount, isReal)) {
                return;
            }
            atEnd = side == 0 ? end > zone : end <= zone;
            for (int i = 0; i < MOST_STEPS && left > 0 && !atEnd; i++) {
                pourStep(end);
                if (real && crossedTick != NONE) {
                    market.dropAt(poolNumber, side, crossedTick);
                }
            }
            finish(person);
        }

        // What comes out is told; if any is left behind it, it can't be.
        void drain(Market m, int person, int number, int itsSide, long amount, boolean isReal) {
            if (!start(m, number, itsSide, amount, isReal)) {
                return;
            }
            int end = lastTick(side);
            for (int i = 0; i < MOST_STEPS && left > 0 && !atEnd; i++) {
                drainStep(end);
                if (real && crossedTick != NONE) {
                    market.dropAt(poolNumber, side, crossedTick);
                }
            }
            finish(person);
        }

        private boolean start(Market m, int number, int itsSide, long amount, boolean isReal) {
            market = m;
            pool = m.poolAt(number);
            poolNumber = number;
            side = itsSide;
            real = isReal;
            atEnd = false;
            crossed = 0;
            left = amount;
            gave = 0;
            paid = 0;
            fees = 0;
            if (pool == null || !isSide(side)) {
                return false;
            }
            root = pool.root;
            zone = pool.zone;
            if (real) {
                pool.mark(m.time);
            }
            return true;
        }

        private void pourStep(int end) {
            int aim = aimBefore(end);
            int goal = Curve.rootAt(aim);
            int ahead = root;
            int rate = 1000 - pool.fee;
            long liquidity = market.liquidityAt(poolNumber, zone);
            long wanted = Curve.between(side == 0, liquidity, root, goal, true);
            long n = left * rate / 1000;
            boolean reached = n >= wanted;
            long came = reached ? wanted : n;
            long fee = reached ? Curve.upwards(wanted * pool.fee, rate) : left - n;
            root = reached ? goal : Curve.rootBehindIn(side, liquidity, root, n);
            gave += Curve.between(side != 0, liquidity, ahead, root, false);
            left -= came + fee;
            takeIn(came, fee);
            arrive(aim, aim == end, reached);
        }

        private void drainStep(int end) {
            int aim = aimBefore(end);
            int goal = Curve.rootAt(aim);
            int ahead = root;
            long liquidity = market.liquidityAt(poolNumber, zone);
            long served = Curve.between(side != 0, liquidity, root, goal, false);
            boolean reached = left >= served;
            long comes = reached ? served : left;
            root = reached ? goal : Curve.rootBehindOut(side, liquidity, root, left);
            gave += comes;
            left -= comes;
            long came = Curve.between(side == 0, liquidity, ahead, root, true);
            takeIn(came, Curve.upwards(came * pool.fee, 1000 - pool.fee));
            arrive(aim, aim == end, reached);
        }

        private int aimBefore(int end) {
            int edge = market.nextEdge(poolNumber, zone, side);
            boolean endIsNearer = side == 0 ? end >= edge : end <= edge;
            return edge == NONE || endIsNearer ? end : edge;
        }

        // Shared before the zone moves: to those that were in ahead of the step.
        private void takeIn(long came, long fee) {
            paid += came + fee;
            fees += fee;
            if (real && fee > 0) {
                market.share(poolNumber, side, fee);
            }
        }

        private void arrive(int aim, boolean isEnd, boolean reached) {
            crossedTick = NONE;
            if (reached && isEnd) {
                atEnd = true;
                zone = side == 0 ? aim : aim - 1;
            } else if (reached) {
                crossedTick = aim;
                crossed++;
                zone = side == 0 ? aim - 1 : aim;
            } else {
                zone = zoneShortOf(aim);
            }
            if (real) {
                pool.root = root;
                pool.zone = zone;
            }
        }

        // Counted from the zone it was, since a pool that came down to a tick stands below it with the tick's root.
        private int zoneShortOf(int aim) {
            int z = zone;
            if (side == 0) {
                while (z > 0 && Curve.rootAt(z) > root) {
                    z--;
                }
                return z;
            }
            while (z + 1 < aim && Curve.rootAt(z + 1) <= root) {
                z++;
            }
            return z;
        }

        private void finish(int person) {
            if (!real || !isSide(side)) {
                return;
            }
            market.crossed += crossed;
            pool.held[side] += (int) paid;
            pool.held[1 - side] -= (int) gave;
            if (person != NONE) {
                market.putIntoPurse(person, pool.thingOn(side), (int) -paid);
                market.putIntoPurse(person, pool.thingOn(1 - side), (int) gave);
            }
        }
    }

    /** The bytes that were fed, and reading words and numbers along them. */
    private static final class Tape {
        private static final int FED_AT_ONCE = 20;
        private static final int MOST_DIGITS = 7;

        private static final int BAD_PLACE = 0;
        private static final int BAD_NUMBER = 1;

        int length;
        int fault;
        int value;
        int wordStart;
        private int wordEnd;
        private int at;
        private final byte[] bytes;

        Tape() {
            bytes = new byte[MOST_BYTES];
        }

        boolean hasRoom() {
            return length + FED_AT_ONCE <= bytes.length;
        }

        void append(int number) {
            for (int shift = 24; shift >= 0 && length < bytes.length; shift -= 8) {
                bytes[length] = (byte) (number >> shift);
                length++;
            }
        }

        void rewind() {
            at = 0;
            fault = 0;
        }

        boolean blame(int place, int kind) {
            fault = 1 + 8 * place + kind;
            return false;
        }

        // The next byte that is no blank; NONE at the end.
        int peek() {
            while (at < length && byteAt(at) == ' ') {
                at++;
            }
            return byteAt(at);
        }

        private int byteAt(int place) {
            return place >= 0 && place < length && place < bytes.length ? bytes[place] & 255 : NONE;
        }

        boolean accept(int sign) {
            if (peek() != sign) {
                return false;
            }
            at++;
            return true;
        }

        boolean blameHere(int kind) {
            peek();
            return blame(at, kind);
        }

        boolean readWord() {
            peek();
            wordStart = at;
            while (at < length && byteAt(at) >= 'a' && byteAt(at) <= 'z') {
                at++;
            }
            wordEnd = at;
            return wordEnd > wordStart || blame(wordStart, BAD_PLACE);
        }

        boolean wordIs(String word) {
            boolean same = word.length() == wordEnd - wordStart;
            for (int i = 0; same && i < word.length(); i++) {
                same = byteAt(wordStart + i) == word.charAt(i);
            }
            return same;
        }

        boolean blameWord(int kind) {
            return blame(wordStart, kind);
        }

        static boolean isDigit(int sign) {
            return sign >= '0' && sign <= '9';
        }

        boolean readNumber(int low, int high) {
            peek();
            int start = at;
            value = 0;
            while (at < length && isDigit(byteAt(at))) {
                // Beyond seven digits it is a fault, whatever they are: so the value need not go on.
                value = at - start < MOST_DIGITS ? value * 10 + byteAt(at) - '0' : value;
                at++;
            }
            if (at == start) {
                return blame(start, BAD_PLACE);
            }
            boolean good = at - start <= MOST_DIGITS && value >= low && value <= high;
            return good || blame(start, BAD_NUMBER);
        }

        boolean readNumberBut(int high, int other) {
            peek();
            int start = at;
            return readNumber(0, high) && (value != other || blame(start, BAD_NUMBER));
        }
    }

    /** Reads the text of a market. */
    private static final class MarketReader {
        private static final int MOST_CLAUSES = 30;
        private static final int MISPLACED = 2;

        private final Tape tape;
        private final Market market;

        MarketReader(Tape itsTape, Market itsMarket) {
            tape = itsTape;
            market = itsMarket;
        }

        boolean read() {
            tape.rewind();
            market.clear();
            for (int clause = 0; clause <= MOST_CLAUSES; clause++) {
                if (!readClause(clause)) {
                    return false;
                }
                if (tape.peek() == NONE) {
                    return true;
                }
                if (!tape.accept(';')) {
                    return tape.blameHere(Tape.BAD_PLACE);
                }
            }
            return false;
        }

        private boolean readClause(int clause) {
            if (!tape.readWord()) {
                return false;
            }
            boolean isMarket = tape.wordIs("market");
            boolean isPool = tape.wordIs("pool");
            if (!isMarket && !isPool && !tape.wordIs("purse")) {
                return tape.blameWord(Tape.BAD_PLACE);
            }
            boolean onePoolTooMany = isPool && market.pools >= MOST_POOLS;
            if (clause >= MOST_CLAUSES || isMarket != (clause == 0) || onePoolTooMany) {
                return tape.blameWord(MISPLACED);
            }
            if (isMarket) {
                return readSizes();
            }
            return isPool ? readPool() : readPurse();
        }

        private boolean readSizes() {
            if (!tape.readNumber(2, MOST_THINGS)) {
                return false;
            }
            market.things = tape.value;
            if (!tape.readNumber(1, MOST_PEOPLE)) {
                return false;
            }
            market.people = tape.value;
            return true;
        }

        private boolean readPool() {
            Pool p = market.newPool();
            if (p == null || !tape.readNumber(0, market.things - 1)) {
                return false;
            }
            p.first = tape.value;
            if (!tape.readNumberBut(market.things - 1, p.first)) {
                return false;
            }
            p.second = tape.value;
            if (!tape.readNumber(0, 99)) {
                return false;
            }
            p.fee = tape.value;
            if (!tape.readNumber(0, 100)) {
                return false;
            }
            p.cut = tape.value;
            if (!tape.readNumber(1, 10)) {
                return false;
            }
            p.spacing = tape.value;
            if (!tape.readNumber(1, 9999)) {
                return false;
            }
            int a = tape.value;
            if (!tape.readNumber(1, 9999)) {
                return false;
            }
            p.open(a, tape.value);
            return true;
        }

        private boolean readPurse() {
            if (!tape.readNumber(0, market.people - 1)) {
                return false;
            }
            int person = tape.value;
            if (!tape.readNumber(0, market.things - 1)) {
                return false;
            }
            int thing = tape.value;
            if (!tape.readNumber(0, MOST_AMOUNT)) {
                return false;
            }
            market.putIntoPurse(person, thing, tape.value - market.purseOf(person, thing));
            return true;
        }
    }

    /** One step of a bundle, as it was told. */
    private static final class Step {
        static final int IN = 0;
        static final int OUT = 1;
        static final int ADD = 2;
        static final int DROP = 3;
        static final int LEAST = 4;
        static final int LEND = 5;
        static final int TIMES = 6;

        static final int TOLD = 0;
        static final int ALL = 1;
        static final int GOT = 2;

        int kind;
        int place;
        int pool;
        int side;
        int low;
        int high;
        int thing;
        int amount;
        int much;
        // The number of the step behind it and all that stands in its brackets.
        int after;

        boolean hasBrackets() {
            return kind == LEND || kind == TIMES;
        }
    }

    /** The steps of a bundle, in the order of the text. */
    private static final class Script {
        private static final int MOST_STEPS = 40;
        private static final int MOST_DEEP = 4;
        private static final int TOO_MANY = 2;
        private static final int TOO_DEEP = 3;

        int size;
        private final Tape tape;
        private final Step[] steps;
        private final int[] open;
        private int deep;

        Script(Tape itsTape) {
            tape = itsTape;
            steps = new Step[MOST_STEPS];
            for (int i = 0; i < steps.length; i++) {
                steps[i] = new Step();
            }
            open = new int[MOST_DEEP];
        }

        Step stepAt(int i) {
            return i >= 0 && i < size && i < steps.length ? steps[i] : null;
        }

        boolean compile() {
            tape.rewind();
            size = 0;
            deep = 0;
            for (int i = 0; i <= MOST_STEPS; i++) {
                if (!readStep()) {
                    return false;
                }
                Step s = stepAt(size - 1);
                if (s != null && s.hasBrackets()) {
                    if (!openBracket()) {
                        return false;
                    }
                } else {
                    closeBrackets();
                    if (deep == 0 && tape.peek() == NONE) {
                        return true;
                    }
                    if (!tape.accept(';')) {
                        return tape.blameHere(Tape.BAD_PLACE);
                    }
                }
            }
            return false;
        }

        private boolean openBracket() {
            if (tape.peek() != '[') {
                return tape.blameHere(Tape.BAD_PLACE);
            }
            if (deep < 0 || deep >= open.length) {
                return tape.blameHere(TOO_DEEP);
            }
            tape.accept('[');
            open[deep] = size - 1;
            deep++;
            return true;
        }

        private void closeBrackets() {
            while (deep > 0 && deep <= open.length && tape.accept(']')) {
                deep--;
                Step s = stepAt(open[deep]);
                if (s != null) {
                    s.after = size;
                }
            }
        }

        private boolean readStep() {
            if (!tape.readWord()) {
                return false;
            }
            int kind = kindOfWord();
            if (kind == NONE) {
                return tape.blameWord(Tape.BAD_PLACE);
            }
            if (size < 0 || size >= steps.length) {
                return tape.blameWord(TOO_MANY);
            }
            Step s = steps[size];
            size++;
            s.kind = kind;
            s.place = tape.wordStart;
            s.after = size;
            switch (kind) {
                case Step.ADD:
                    return readRange(s) && readAmount(s, 1, MOST_ADDED);
                case Step.DROP:
                    return readRange(s);
                case Step.LEAST:
                    return readLeast(s);
                case Step.TIMES:
                    return readAmount(s, 0, 20);
                default:
                    return readPoolAndSide(s) && readMuch(s);
            }
        }

        private int kindOfWord() {
            if (tape.wordIs("in")) {
                return Step.IN;
            }
            if (tape.wordIs("out")) {
                return Step.OUT;
            }
            if (tape.wordIs("add")) {
                return Step.ADD;
            }
            if (tape.wordIs("drop")) {
                return Step.DROP;
            }
            if (tape.wordIs("least")) {
                return Step.LEAST;
            }
            if (tape.wordIs("lend")) {
                return Step.LEND;
            }
            return tape.wordIs("times") ? Step.TIMES : NONE;
        }

        private boolean readPoolAndSide(Step s) {
            if (!tape.readNumber(0, MOST_POOLS - 1)) {
                return false;
            }
            s.pool = tape.value;
            if (!tape.readNumber(0, 1)) {
                return false;
            }
            s.side = tape.value;
            return true;
        }

        private boolean readRange(Step s) {
            if (!tape.readNumber(0, MOST_POOLS - 1)) {
                return false;
            }
            s.pool = tape.value;
            if (!tape.readNumber(0, TOP_TICK)) {
                return false;
            }
            s.low = tape.value;
            if (!tape.readNumber(0, TOP_TICK)) {
                return false;
            }
            s.high = tape.value;
            return true;
        }

        private boolean readLeast(Step s) {
            if (!tape.readNumber(0, MOST_THINGS - 1)) {
                return false;
            }
            s.thing = tape.value;
            return readAmount(s, 0, MOST_AMOUNT);
        }

        private boolean readAmount(Step s, int low, int high) {
            if (!tape.readNumber(low, high)) {
                return false;
            }
            s.amount = tape.value;
            return true;
        }

        private boolean readMuch(Step s) {
            s.much = Step.TOLD;
            if (Tape.isDigit(tape.peek())) {
                return readAmount(s, 0, MOST_AMOUNT);
            }
            if (!tape.readWord()) {
                return false;
            }
            if (tape.wordIs("all")) {
                s.much = Step.ALL;
                return true;
            }
            s.much = Step.GOT;
            return tape.wordIs("got") || tape.blameWord(Tape.BAD_PLACE);
        }
    }

    /** Does the steps of a script, one a turn; whoever runs it undoes what failed. */
    private static final class Runner {
        // A hundred steps at most, and behind each at most four brackets that close.
        static final int MOST_TURNS = 1000;

        private static final int MOST_DONE = 100;
        private static final int CANNOT_BE = 5;
        private static final int TOO_LONG = 6;
        private static final int NOT_GIVEN_BACK = 7;

        int done;
        int failure;
        private final Market market;
        private final Script script;
        private final Trade trade;
        private int person;
        private int at;
        private int deep;
        private long got;
        private final int[] open;
        private final int[] rounds;
        private final int[] lent;
        private final boolean[] locked;

        Runner(Market itsMarket, Script itsScript, Trade itsTrade) {
            market = itsMarket;
            script = itsScript;
            trade = itsTrade;
            open = new int[Script.MOST_DEEP];
            rounds = new int[Script.MOST_DEEP];
            lent = new int[Script.MOST_DEEP];
            locked = new boolean[MOST_POOLS];
        }

        void start(int itsPerson) {
            person = itsPerson;
            done = 0;
            failure = 0;
            at = 0;
            deep = 0;
            got = 0;
            for (int i = 0; i < locked.length; i++) {
                locked[i] = false;
            }
        }

        boolean goesOn() {
            return failure == 0 && (deep > 0 || at < script.size);
        }

        void turn() {
            Step around = deep > 0 && deep <= open.length ? script.stepAt(open[deep - 1]) : null;
            if (around != null && at >= around.after) {
                closeBracket(around);
                return;
            }
            Step s = script.stepAt(at);
            if (s == null) {
                return;
            }
            if (done >= MOST_DONE) {
                fail(s, TOO_LONG);
                return;
            }
            done++;
            at++;
            boolean good;
            switch (s.kind) {
                case Step.IN: good = doIn(s); break;
                case Step.OUT: good = doOut(s); break;
                case Step.ADD:
                    good = !isLocked(s.pool)
                        && market.addStake(person, s.pool, s.low, s.high, 0, s.amount) != NONE;
                    break;
                case Step.DROP: good = doDrop(s); break;
                case Step.LEAST:
                    good = market.hasThing(s.thing) && market.purseOf(person, s.thing) >= s.amount;
                    break;
                case Step.LEND: good = doLend(s); break;
                default: good = doTimes(s); break;
            }
            if (!good) {
                fail(s, CANNOT_BE);
            }
        }

        private void fail(Step s, int kind) {
            failure = 1 + 8 * s.place + kind;
        }

        private boolean isLocked(int pool) {
            return pool >= 0 && pool < locked.length && locked[pool];
        }

        private void setLocked(int pool, boolean on) {
            if (pool >= 0 && pool < locked.length) {
                locked[pool] = on;
            }
        }

        private long muchOf(Step s, int all) {
            if (s.much == Step.ALL) {
                return all;
            }
            return s.much == Step.GOT ? got : s.amount;
        }

        private boolean doIn(Step s) {
            Pool p = market.poolAt(s.pool);
            if (p == null || isLocked(s.pool)) {
                return false;
            }
            int purse = market.purseOf(person, p.thingOn(s.side));
            long amount = muchOf(s, purse);
            if (amount < 1 || amount > purse) {
                return false;
            }
            trade.pour(market, person, s.pool, s.side, amount, lastTick(s.side), true);
            got = trade.gave;
            return true;
        }

        private boolean doOut(Step s) {
            Pool p = market.poolAt(s.pool);
            if (p == null || isLocked(s.pool)) {
                return false;
            }
            int purse = market.purseOf(person, p.thingOn(s.side));
            long amount = muchOf(s, p.heldOn(1 - s.side));
            if (amount < 1 || amount > MOST_AMOUNT) {
                return false;
            }
            trade.drain(market, person, s.pool, s.side, amount, true);
            got = trade.gave;
            return trade.left == 0 && trade.paid <= purse;
        }

        private boolean doDrop(Step s) {
            int stake = market.findStake(person, s.pool, s.low, s.high, 0);
            Stake own = market.stakeAt(stake);
            if (own == null || isLocked(s.pool)) {
                return false;
            }
            market.withdraw(stake, own.liquidity);
            return true;
        }

        private boolean doLend(Step s) {
            Pool p = market.poolAt(s.pool);
            if (p == null || isLocked(s.pool) || market.liquidityAt(s.pool, p.zone) < 1) {
                return false;
            }
            int held = p.heldOn(s.side);
            long amount = muchOf(s, held);
            if (amount < 1 || amount > held || !canOpen()) {
                return false;
            }
            market.payOut(p, s.side, person, (int) amount);
            setLocked(s.pool, true);
            openBracket(0, (int) amount);
            return true;
        }

        private boolean doTimes(Step s) {
            if (s.amount < 1) {
                at = s.after;
                return true;
            }
            openBracket(s.amount, 0);
            return true;
        }

        private boolean canOpen() {
            return deep >= 0 && deep < open.length;
        }

        private void openBracket(int itsRounds, int itsLoan) {
            if (canOpen()) {
                open[deep] = at - 1;
                rounds[deep] = itsRounds;
                lent[deep] = itsLoan;
                deep++;
            }
        }

        private void closeBracket(Step s) {
            int top = deep - 1;
            if (top < 0 || top >= open.length) {
                return;
            }
            if (s.kind == Step.LEND) {
                giveBack(s, lent[top]);
                deep = top;
                return;
            }
            rounds[top]--;
            if (rounds[top] > 0) {
                at = open[top] + 1;
            } else {
                deep = top;
            }
        }

        private void giveBack(Step s, int amount) {
            Pool p = market.poolAt(s.pool);
            setLocked(s.pool, false);
            if (p == null) {
                return;
            }
            int fee = (int) Curve.upwards((long) amount * p.fee, 1000);
            if (market.purseOf(person, p.thingOn(s.side)) < amount + fee) {
                fail(s, NOT_GIVEN_BACK);
                return;
            }
            market.payOut(p, s.side, person, -(amount + fee));
            market.share(s.pool, s.side, fee);
        }
    }

    /** Looks for the best row of pools. */
    private static final class Finder {
        private static final int MOST_LONG = 3;
        private static final int MOST_LOOKS = 100000;

        long bestGain;
        int bestAmount;
        int bestLength;
        private final Trade trade;
        private final int[] best;
        // The row on trial: its pools, the thing and the amount ahead of each, which pool is next there.
        private final int[] row;
        private final int[] thing;
        private final long[] amount;
        private final int[] next;

        Finder(Trade itsTrade) {
            trade = itsTrade;
            best = new int[MOST_LONG];
            row = new int[MOST_LONG];
            thing = new int[MOST_LONG];
            amount = new long[MOST_LONG];
            next = new int[MOST_LONG];
        }

        int bestPool(int i) {
            return i >= 0 && i < bestLength && i < best.length ? best[i] : CANNOT;
        }

        // One number for the whole row, never 0: so rows can be compared and the first one kept.
        int bestCode() {
            int code = 1;
            for (int i = 0; i < bestLength && i < best.length; i++) {
                code = code * (MOST_POOLS + 1) + best[i] + 1;
            }
            return code;
        }

        // Only rows that gain more than this will count.
        void forget(int gain) {
            bestGain = gain;
            bestAmount = 0;
            bestLength = 0;
        }

        // Rows of one length are met in their order, so of equal ones the first stays.
        void search(Market market, int from, int to, int much) {
            int depth = 0;
            thing[0] = from;
            amount[0] = much;
            next[0] = 0;
            for (int i = 0; i < MOST_LOOKS && depth >= 0 && depth < MOST_LONG; i++) {
                int number = next[depth];
                next[depth]++;
                if (number >= market.pools) {
                    depth--;
                } else {
                    int reached = otherThing(market, depth, number);
                    boolean home = reached == to;
                    boolean on = depth + 1 < MOST_LONG && !wasAt(depth, reached);
                    if (reached != NONE && (home || on)) {
                        long given = trial(market, depth, number);
                        if (given > 0 && home) {
                            consider(depth + 1, given, much);
                        } else if (given > 0 && on) {
                            depth++;
                            thing[depth] = reached;
                            amount[depth] = given;
                            next[depth] = 0;
                        }
                    }
                }
            }
        }

        // What a pool leads to from where the row is; NONE if it can't go on by it.
        private int otherThing(Market market, int depth, int number) {
            for (int i = 0; i < depth && i < row.length; i++) {
                if (row[i] == number) {
                    return NONE;
                }
            }
            Pool p = market.poolAt(number);
            int side = p == null || depth < 0 || depth >= thing.length ? NONE : p.sideOf(thing[depth]);
            return side == NONE ? NONE : p.thingOn(1 - side);
        }

        private boolean wasAt(int depth, int reached) {
            for (int i = 0; i <= depth && i < thing.length; i++) {
                if (thing[i] == reached) {
                    return true;
                }
            }
            return false;
        }

        private long trial(Market market, int depth, int number) {
            Pool p = market.poolAt(number);
            if (p == null || depth < 0 || depth >= row.length) {
                return 0;
            }
            row[depth] = number;
            int side = p.sideOf(thing[depth]);
            trade.pour(market, NONE, number, side, amount[depth], lastTick(side), false);
            return trade.gave;
        }

        // By gain: among rows of one amount that is by what comes out.
        private void consider(int length, long given, int much) {
            long gain = given - much;
            boolean shorter = gain == bestGain && much == bestAmount && length < bestLength;
            if (gain > bestGain || shorter) {
                bestGain = gain;
                bestAmount = much;
                bestLength = length;
                System.arraycopy(row, 0, best, 0, best.length);
            }
        }

        // Swaps along the best row in earnest.
        void follow(Market market, int from, int much) {
            int here = from;
            long amountHere = much;
            for (int i = 0; i < bestLength && i < best.length; i++) {
                Pool p = market.poolAt(best[i]);
                int side = p == null ? NONE : p.sideOf(here);
                if (side == NONE) {
                    return;
                }
                trade.pour(market, NONE, best[i], side, amountHere, lastTick(side), true);
                amountHere = trade.gave;
                here = p.thingOn(1 - side);
            }
        }
    }
}
