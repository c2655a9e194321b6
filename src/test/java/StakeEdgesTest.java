import java.math.BigInteger;

/** Promises 6 to 14, 26 and 27, edge by edge: ticks, pools, stakes and what is owed to them. */
public final class StakeEdgesTest {
    private static final Bench BENCH = new Bench("StakeEdgesTest");
    private static final String PURSES = ";purse 0 0 100000;purse 0 1 100000;purse 1 0 50000;purse 1 1 50000";
    // Without a cut: the fee of 1 of a swap of 100 is all for the stakes.
    private static final String UNCUT = "market 2 2;pool 0 1 10 0 1 1 1" + PURSES;

    public static void main(String[] args) {
        ticksAtTheirBounds();
        rootsAtFirst();
        zonesAtFirst();
        zonesOfDepth();
        whatLiesAroundTheZone();
        whatLiesBetweenLikeRoots();
        rootOnATickOfTheZoneBelow();
        overIsOfEachThing();
        overWithHouseAndOwed();
        addUpToThePurse();
        addOfWhatDoesNotFit();
        addBySpacing();
        addToTheSameFive();
        addUpToTheMostLiquidity();
        addUpToTwelve();
        refusedCallsSettleNothing();
        settledByAddTakeAndPay();
        takeAtItsBounds();
        takenStakeLeavesTheOthers();
        newStakeOwesNothingOfTheOld();
        payAtItsBounds();
        levyAtItsBounds();
        totalsAtTheirBounds();
        countsAtTheirBounds();
        purseAtItsBounds();
        newMarketBeginsAnew();
        BENCH.finish();
    }

    // Promise 6.

    private static void ticksAtTheirBounds() {
        TickPools x = new TickPools();
        BENCH.due("root of 0", x.root(0), 38554);
        BENCH.due("root of 1", x.root(1), 40436);
        BENCH.due("root of 19", x.root(19), 95346);
        BENCH.due("root of 20", x.root(20), 100000);
        BENCH.due("root of 21", x.root(21), 104880);
        BENCH.due("root of 39", x.root(39), 247303);
        BENCH.due("root of 40", x.root(40), 259374);
        for (int n : Bench.odd(-1, 41)) {
            BENCH.due("root of " + n, x.root(n), -1);
        }
    }

    // Promise 8.

    private static void begins(int a, int b) {
        TickPools x = Bench.made("market 2 1;pool 0 1 0 0 1 " + a + " " + b);
        int root = BigInteger.TEN.pow(10).multiply(BigInteger.valueOf(a)).divide(BigInteger.valueOf(b)).sqrt().intValue();
        int due = Math.max(38554, Math.min(259374, root));
        BENCH.due("root of " + a + " / " + b, x.pool(0, 6), due);
        int zone = 0;
        for (int z = 0; z <= 39; z++) {
            zone = x.root(z) <= due ? z : zone;
        }
        BENCH.due("zone of " + a + " / " + b, x.pool(0, 5), zone);
    }

    private static void rootsAtFirst() {
        int[] some = {1, 2, 3, 4, 5, 7, 9, 16, 99, 100, 1000, 4999, 5000, 9998, 9999};
        for (int a : some) {
            for (int b : some) {
                begins(a, b);
            }
        }
        for (int i = 0; i < 1500; i++) {
            begins(1 + i * 7919 % 9999, 1 + i * 104729 % 9999);
        }
        // 6.7274 of the price is at tick 40, 0.14864 at tick 0: just within these and just beyond.
        int[][] near = {{6727, 1000}, {6728, 1000}, {1000, 6727}, {1000, 6728}, {1487, 9999}, {1486, 9999}};
        for (int[] n : near) {
            begins(n[0], n[1]);
        }
        // Just squares, and what lies less than 1 below the square of 41501, 54644, 57429, 62476.
        int[][] squares = {{9, 4}, {25, 16}, {9801, 8100}, {4, 9}, {6084, 961}, {691, 4012}, {1149, 3848}, {967, 2932},
            {1525, 3907}};
        for (int[] n : squares) {
            begins(n[0], n[1]);
        }
        TickPools x = Bench.made("market 2 1;pool 0 1 0 0 1 691 4012;pool 0 1 0 0 1 9 4");
        BENCH.due("41500.9", x.pool(0, 6), 41500);
        BENCH.due("150000 wholly", x.pool(1, 6), 150000);
    }

    private static void zonesAtFirst() {
        TickPools x = Bench.made("market 2 1;pool 0 1 0 0 1 9999 1;pool 0 1 0 0 1 1 9999;pool 0 1 0 0 1 1 1"
            + ";pool 0 1 0 0 1 10 11;pool 0 1 0 0 1 11 10");
        int[] roots = {259374, 38554, 100000, 95346, 104880};
        int[] zones = {39, 0, 20, 19, 21};
        for (int pool = 0; pool < 5; pool++) {
            BENCH.due("root " + pool, x.pool(pool, 6), roots[pool]);
            BENCH.due("zone " + pool, x.pool(pool, 5), zones[pool]);
        }
    }

    // Promise 9.

    private static void zonesOfDepth() {
        TickPools x = Bench.plain();
        x.add(0, 0, 0, 40, 0, 7);
        x.add(0, 0, 0, 1, 0, 100);
        x.add(0, 0, 39, 40, 0, 500);
        int[][] due = {{0, 107}, {1, 7}, {18, 7}, {19, 10007}, {20, 10007}, {21, 7}, {38, 7}, {39, 507}};
        for (int[] d : due) {
            BENCH.due("depth of zone " + d[0], x.depth(0, d[0]), d[1]);
        }
        for (int n : Bench.odd(-1, 40)) {
            BENCH.due("depth of zone " + n, x.depth(0, n), -1);
        }
        for (int n : Bench.odd(-1, 1)) {
            BENCH.due("depth of pool " + n, x.depth(n, 20), -1);
        }
        BENCH.due("no stake, no depth", Bench.made(Bench.PLAIN).depth(0, 20), 0);
    }

    // Promise 10.

    private static int first(long l, long a, long b) {
        return BigInteger.valueOf(l).multiply(BigInteger.valueOf(100000 * (b - a)))
            .divide(BigInteger.valueOf(a * b)).intValue();
    }

    private static int second(long l, long a, long b) {
        return BigInteger.valueOf(l).multiply(BigInteger.valueOf(b - a)).divide(BigInteger.valueOf(100000)).intValue();
    }

    private static void whatLiesAroundTheZone() {
        // The root is 102469, between ticks 20 and 21.
        String text = "market 2 1;pool 0 1 0 0 1 21 20;purse 0 0 9999999;purse 0 1 9999999";
        BENCH.due("root", Bench.made(text).pool(0, 6), 102469);
        // LOW, HIGH, the roots of FIRST, those of SECOND, and whether it is IN.
        int[][] stakes = {
            {18, 19, 1, 1, 90909, 95346, 0}, {19, 20, 1, 1, 95346, 100000, 0},
            {19, 21, 102469, 104880, 95346, 102469, 1}, {20, 21, 102469, 104880, 100000, 102469, 1},
            {20, 22, 102469, 110000, 100000, 102469, 1}, {0, 40, 102469, 259374, 38554, 102469, 1},
            {21, 22, 104880, 110000, 1, 1, 0}, {22, 23, 110000, 115368, 1, 1, 0},
        };
        for (int[] s : stakes) {
            TickPools x = Bench.made(text);
            BENCH.due("add", x.add(0, 0, s[0], s[1], 0, 77777), 0);
            int dueFirst = first(77777, s[2], s[3]);
            int dueSecond = second(77777, s[4], s[5]);
            String name = "stake of " + s[0] + " to " + s[1];
            BENCH.due(name + ", FIRST", x.stake(0, 6), dueFirst);
            BENCH.due(name + ", SECOND", x.stake(0, 7), dueSecond);
            BENCH.due(name + ", IN", x.stake(0, 10), s[6]);
            BENCH.due(name + ", upwards from the purse", 9999999 - x.purse(0, 0), s[2] == s[3] ? 0 : dueFirst + 1);
            BENCH.due(name + ", upwards from the purse", 9999999 - x.purse(0, 1), s[4] == s[5] ? 0 : dueSecond + 1);
            x.take(0, 77777);
            BENCH.due(name + ", downwards into it", 9999999 - x.purse(0, 0), s[2] == s[3] ? 0 : 1);
            BENCH.due(name + ", downwards into it", 9999999 - x.purse(0, 1), s[4] == s[5] ? 0 : 1);
        }
    }

    private static void whatLiesBetweenLikeRoots() {
        TickPools x = Bench.made("market 2 1;pool 0 1 0 0 1 1 1;purse 0 0 9999999;purse 0 1 5");
        // At tick 20 a stake from there on wants nothing of the second thing.
        BENCH.due("add", x.add(0, 0, 20, 21, 0, 99999), 0);
        BENCH.due("nothing of the second", x.purse(0, 1), 5);
        BENCH.due("SECOND", x.stake(0, 7), 0);
        BENCH.due("FIRST", x.stake(0, 6), first(99999, 100000, 104880));
        BENCH.due("IN", x.stake(0, 10), 1);
        BENCH.due("OVER of the second", x.pool(0, 13), 0);
        // What divides wholly is neither more nor less: 50000 * 4880 / 100000.
        x = Bench.made("market 2 1;pool 0 1 0 0 1 9999 1;purse 0 0 0;purse 0 1 2440");
        BENCH.due("just what there is", x.add(0, 0, 20, 21, 0, 50000), 0);
        BENCH.due("the purse is empty", x.purse(0, 1), 0);
        BENCH.due("SECOND", x.stake(0, 7), 2440);
        BENCH.due("nothing OVER", x.pool(0, 13), 0);
        // At the outermost roots: zone 39 at that of tick 40, zone 0 at that of tick 0.
        x = Bench.made("market 2 1;pool 0 1 0 0 1 9999 1;pool 0 1 0 0 1 1 9999;purse 0 0 9999999;purse 0 1 9999999");
        x.add(0, 0, 39, 40, 0, 10000);
        BENCH.due("FIRST at tick 40", x.stake(0, 6), 0);
        BENCH.due("SECOND at tick 40", x.stake(0, 7), second(10000, 247303, 259374));
        BENCH.due("IN at tick 40", x.stake(0, 10), 1);
        x.add(0, 1, 0, 1, 0, 10000);
        BENCH.due("FIRST at tick 0", x.stake(1, 6), first(10000, 38554, 40436));
        BENCH.due("SECOND at tick 0", x.stake(1, 7), 0);
        BENCH.due("IN at tick 0", x.stake(1, 10), 1);
    }

    private static void rootOnATickOfTheZoneBelow() {
        TickPools x = Bench.made(UNCUT);
        x.add(0, 0, 20, 21, 0, 10000);
        x.add(0, 0, 10, 20, 0, 30000);
        BENCH.due("IN above", x.stake(0, 10), 1);
        BENCH.due("not IN below", x.stake(1, 10), 0);
        int above = x.stake(0, 6);
        int below = x.stake(1, 7);
        // Tick 20 is crossed by a step of nothing; then n of 1 is 0, and all of it is fee.
        BENCH.due("in", x.in(1, 0, 0, 1, 0), 0);
        BENCH.due("ROOT", x.pool(0, 6), 100000);
        BENCH.due("ZONE", x.pool(0, 5), 19);
        BENCH.due("crossed", x.count(5), 1);
        BENCH.due("LIQUIDITY", x.pool(0, 7), 30000);
        BENCH.due("not IN above", x.stake(0, 10), 0);
        BENCH.due("IN below", x.stake(1, 10), 1);
        BENCH.due("as much lies above", x.stake(0, 6), above);
        BENCH.due("nothing else", x.stake(0, 7), 0);
        BENCH.due("as much lies below", x.stake(1, 7), below);
        BENCH.due("nothing else", x.stake(1, 6), 0);
        BENCH.due("up again", x.in(1, 0, 1, 1, 40), 0);
        BENCH.due("ZONE", x.pool(0, 5), 20);
        BENCH.due("crossed", x.count(5), 2);
    }

    private static void overIsOfEachThing() {
        TickPools x = Bench.made(Bench.PLAIN);
        x.add(0, 0, 21, 22, 0, 10000);
        BENCH.due("of the first", x.pool(0, 12), 1);
        BENCH.due("of the second", x.pool(0, 13), 0);
        x = Bench.made(Bench.PLAIN);
        x.add(0, 0, 18, 19, 0, 10000);
        BENCH.due("of the first", x.pool(0, 12), 0);
        BENCH.due("of the second", x.pool(0, 13), 1);
        BENCH.due("of a pool that holds nothing", Bench.made(Bench.PLAIN).pool(0, 12), 0);
    }

    private static void overWithHouseAndOwed() {
        TickPools x = Bench.plain();
        x.in(1, 0, 0, 494, 0);
        // 466 and 494, less 1 of the house, 953 that lie and 3 owed; of the second 466 less 465.
        BENCH.due("held", x.pool(0, 8), 960);
        BENCH.due("house", x.pool(0, 10), 1);
        BENCH.due("owed", x.stake(0, 8), 3);
        BENCH.due("over", x.pool(0, 12), 3);
        BENCH.due("over", x.pool(0, 13), 1);
        x.levy(0);
        BENCH.due("over behind levy", x.pool(0, 12), 3);
        x.pay(0);
        BENCH.due("over behind pay", x.pool(0, 12), 3);
        x.take(0, 10000);
        BENCH.due("over without stakes", x.pool(0, 12), 3);
        BENCH.due("held without stakes", x.pool(0, 8), 3);
        x = Bench.plain();
        x.in(1, 0, 1, 493, 40);
        BENCH.due("over", x.pool(0, 13), 466 + 493 - 1 - x.stake(0, 7) - 3);
        BENCH.due("owed", x.stake(0, 9), 3);
    }

    // Promise 11.

    private static void addUpToThePurse() {
        // 10000 from 20 to 21 want 465.3 of the first thing; from 19 to 20 465.4 of the second.
        for (int have = 465; have <= 466; have++) {
            TickPools x = Bench.made("market 2 1;pool 0 1 0 0 1 1 1;purse 0 0 " + have + ";purse 0 1 0");
            BENCH.due("first thing, " + have, x.add(0, 0, 20, 21, 0, 10000), have == 466 ? 0 : -1);
            BENCH.due("stakes", x.count(3), have == 466 ? 1 : 0);
            BENCH.due("purse", x.purse(0, 0), have == 466 ? 0 : 465);
            x = Bench.made("market 2 1;pool 0 1 0 0 1 1 1;purse 0 0 0;purse 0 1 " + have);
            BENCH.due("second thing, " + have, x.add(0, 0, 19, 20, 0, 10000), have == 466 ? 0 : -1);
            BENCH.due("purse", x.purse(0, 1), have == 466 ? 0 : 465);
            x = Bench.made("market 2 1;pool 0 1 0 0 1 1 1;purse 0 0 9999;purse 0 1 " + have);
            BENCH.due("both, the second short", x.add(0, 0, 19, 21, 0, 10000), have == 466 ? 0 : -1);
            x = Bench.made("market 2 1;pool 0 1 0 0 1 1 1;purse 0 1 9999;purse 0 0 " + have);
            BENCH.due("both, the first short", x.add(0, 0, 19, 21, 0, 10000), have == 466 ? 0 : -1);
            BENCH.due("nothing of the second is gone", x.purse(0, 1), have == 466 ? 9533 : 9999);
        }
        // The purse of another one does not help.
        TickPools x = Bench.made("market 2 2;pool 0 1 0 0 1 1 1;purse 1 0 9999;purse 1 1 9999");
        BENCH.due("poor", x.add(0, 0, 19, 21, 0, 1), -1);
        BENCH.due("rich", x.add(1, 0, 19, 21, 0, 1), 0);
    }

    private static void addOfWhatDoesNotFit() {
        TickPools x = Bench.made("market 2 2;pool 0 1 10 20 10 1 1" + PURSES);
        String before = Bench.picture(x);
        for (int n : Bench.odd(-1, 2)) {
            BENCH.due("person " + n, x.add(n, 0, 10, 30, 0, 5), -1);
        }
        for (int n : Bench.odd(-1, 1)) {
            BENCH.due("pool " + n, x.add(0, n, 10, 30, 0, 5), -1);
        }
        int[] lows = {-10, -1, 1, 5, 9, 11, 30, 40, 50, Integer.MIN_VALUE, Integer.MAX_VALUE};
        for (int low : lows) {
            BENCH.due("low " + low, x.add(0, 0, low, 30, 0, 5), -1);
        }
        int[] highs = {-10, 0, 10, 11, 19, 21, 39, 41, 50, Integer.MIN_VALUE, Integer.MAX_VALUE};
        for (int high : highs) {
            BENCH.due("high " + high, x.add(0, 0, 10, high, 0, 5), -1);
        }
        for (int n : Bench.odd(-1, 3)) {
            BENCH.due("auto " + n, x.add(0, 0, 10, 30, n, 5), -1);
        }
        for (int n : Bench.odd(0, 100000)) {
            BENCH.due("liquidity " + n, x.add(0, 0, 10, 30, 0, n), -1);
        }
        BENCH.holds("nothing happened", before.equals(Bench.picture(x)));
        BENCH.due("0 to 40", x.add(0, 0, 0, 40, 0, 1), 0);
        BENCH.due("30 to 40", x.add(0, 0, 30, 40, 1, 99999), 1);
        BENCH.due("0 to 10", x.add(1, 0, 0, 10, 2, 99999), 2);
    }

    private static void addBySpacing() {
        for (int spacing = 1; spacing <= 10; spacing++) {
            TickPools x = Bench.made("market 2 1;pool 0 1 0 0 " + spacing + " 1 1;purse 0 0 9999;purse 0 1 9999");
            int last = 0;
            while (last + spacing <= 40) {
                last += spacing;
            }
            BENCH.due("the widest of " + spacing, x.add(0, 0, 0, last, 0, 1), 0);
            BENCH.due("the last of " + spacing, x.add(0, 0, last - spacing, last, 1, 1), 1);
            BENCH.due("the first of " + spacing, x.add(0, 0, 0, spacing, 2, 1), 2);
            BENCH.due("beyond tick 40", x.add(0, 0, 0, last + spacing, 0, 1), -1);
            BENCH.due("below tick 0", x.add(0, 0, -spacing, spacing, 0, 1), -1);
            BENCH.due("none between like ticks", x.add(0, 0, spacing, spacing, 0, 1), -1);
            for (int off = 1; off < spacing; off++) {
                BENCH.due("LOW " + off, x.add(0, 0, off, last, 0, 1), -1);
                BENCH.due("HIGH " + (last - off), x.add(0, 0, 0, last - off, 0, 1), -1);
            }
            BENCH.due("stakes", x.count(3), 3);
        }
    }

    private static void addToTheSameFive() {
        TickPools x = Bench.made(Bench.PLAIN);
        BENCH.due("a new one", x.add(0, 0, 19, 21, 0, 1), 0);
        int[][] others = {{1, 19, 21, 0}, {0, 18, 21, 0}, {0, 19, 22, 0}, {0, 19, 21, 1}, {0, 19, 21, 2}};
        for (int i = 0; i < others.length; i++) {
            int[] o = others[i];
            BENCH.due("unlike in one of five", x.add(o[0], 0, o[1], o[2], o[3], 1), i + 1);
        }
        BENCH.due("the same", x.add(0, 0, 19, 21, 0, 4), 0);
        BENCH.due("its liquidity", x.stake(0, 5), 5);
        BENCH.due("the same", x.add(0, 0, 19, 21, 2, 4), 5);
        BENCH.due("its liquidity", x.stake(5, 5), 5);
        BENCH.due("the others'", x.stake(4, 5), 1);
        BENCH.due("stakes", x.count(3), 6);
        x = Bench.made("market 2 1;pool 0 1 0 0 1 1 1;pool 0 1 0 0 1 1 1;purse 0 0 9999;purse 0 1 9999");
        BENCH.due("of pool 0", x.add(0, 0, 19, 21, 0, 1), 0);
        BENCH.due("of pool 1", x.add(0, 1, 19, 21, 0, 1), 1);
        BENCH.due("its pool", x.stake(1, 1), 1);
    }

    private static void addUpToTheMostLiquidity() {
        TickPools x = Bench.made("market 2 1;pool 0 1 0 0 1 1 1;purse 0 0 9999999;purse 0 1 9999999");
        for (int i = 0; i < 10; i++) {
            BENCH.due("99999 more", x.add(0, 0, 19, 21, 0, 99999), 0);
        }
        String before = Bench.picture(x);
        BENCH.due("1000000", x.add(0, 0, 19, 21, 0, 10), -1);
        BENCH.due("far more", x.add(0, 0, 19, 21, 0, 99999), -1);
        BENCH.holds("nothing happened", before.equals(Bench.picture(x)));
        BENCH.due("another stake may be", x.add(0, 0, 19, 21, 1, 99999), 1);
        BENCH.due("999999", x.add(0, 0, 19, 21, 0, 9), 0);
        BENCH.due("liquidity", x.stake(0, 5), 999999);
        BENCH.due("one more", x.add(0, 0, 19, 21, 0, 1), -1);
        BENCH.due("of the pool more than that", x.pool(0, 7), 1099998);
        x.take(0, 1);
        BENCH.due("room for one", x.add(0, 0, 19, 21, 0, 1), 0);
    }

    private static void addUpToTwelve() {
        TickPools x = Bench.made("market 2 2;pool 0 1 0 0 1 1 1;pool 0 1 0 0 1 1 1" + PURSES);
        for (int i = 0; i < 12; i++) {
            BENCH.due("stake " + i, x.add(i % 2, i / 6, i % 6, 40, 0, 1), i);
        }
        String before = Bench.picture(x);
        BENCH.due("a thirteenth", x.add(0, 0, 7, 40, 0, 1), -1);
        BENCH.due("of another pool", x.add(0, 1, 7, 40, 0, 1), -1);
        BENCH.holds("nothing happened", before.equals(Bench.picture(x)));
        BENCH.due("more of the last", x.add(1, 1, 5, 40, 0, 1), 11);
        BENCH.due("more of the first", x.add(0, 0, 0, 40, 0, 1), 0);
        BENCH.due("stake 11", x.stake(11, 5), 2);
        BENCH.due("stake 12", x.stake(12, 5), -1);
        BENCH.due("take", x.take(11, 2), 11);
        BENCH.due("a twelfth again", x.add(0, 0, 7, 40, 0, 1), 11);
    }

    private static TickPools withFraction() {
        TickPools x = Bench.made(UNCUT);
        x.add(0, 0, 19, 21, 0, 10000);
        // Fee 1: GAIN is 104, and 10000 * 104 / 1048576 is 0.99. Of two such fees 1.98 are owed.
        x.in(1, 0, 0, 100, 0);
        BENCH.due("0.99 owed", x.stake(0, 8), 0);
        return x;
    }

    private static void refusedCallsSettleNothing() {
        TickPools x = withFraction();
        x.add(0, 0, 19, 21, 0, 100000);
        x.add(0, 0, 19, 21, 0, 0);
        x.add(0, 0, 0, 40, 0, 99999);
        // Too dear for the purse: 99999 of it want some 4600 of each.
        BENCH.due("too dear for another one", x.add(1, 0, 0, 40, 0, 99999), -1);
        x.take(0, 0);
        x.take(0, 10001);
        x.take(1, 1);
        x.pay(1);
        x.pay(-1);
        x.stake(0, 8);
        x.pool(0, 12);
        Bench.bundle(x, 0, "add 0 19 21 5;least 0 9999999");
        Bench.bundle(x, 0, "drop 0 19 21;least 0 9999999");
        x.in(1, 0, 0, 100, 0);
        BENCH.due("1.98 owed", x.stake(0, 8), 1);
        x = Bench.made("market 2 2;pool 0 1 10 0 1 1 1;purse 0 0 466;purse 0 1 466;purse 1 0 999;purse 1 1 999");
        x.add(0, 0, 19, 21, 0, 10000);
        x.in(1, 0, 0, 100, 0);
        BENCH.due("to the same, too poor", x.add(0, 0, 19, 21, 0, 5), -1);
        x.in(1, 0, 0, 100, 0);
        BENCH.due("1.98 owed", x.stake(0, 8), 1);
    }

    private static void settledByAddTakeAndPay() {
        TickPools x = withFraction();
        BENCH.due("add", x.add(0, 0, 19, 21, 0, 1), 0);
        x.in(1, 0, 0, 100, 0);
        BENCH.due("0 and 0.99 owed behind add", x.stake(0, 8), 0);
        x = withFraction();
        BENCH.due("take", x.take(0, 1), 1);
        x.in(1, 0, 0, 100, 0);
        BENCH.due("0 and 0.99 owed behind take", x.stake(0, 8), 0);
        x = withFraction();
        BENCH.due("pay", x.pay(0), 0);
        x.in(1, 0, 0, 100, 0);
        BENCH.due("0.99 owed behind pay", x.stake(0, 8), 0);
        x = withFraction();
        x.in(1, 0, 0, 100, 0);
        BENCH.due("add", x.add(0, 0, 19, 21, 0, 1), 0);
        BENCH.due("DEBT is 1", x.stake(0, 8), 1);
        x.in(1, 0, 0, 100, 0);
        BENCH.due("1 and 0.99", x.stake(0, 8), 1);
        x.in(1, 0, 0, 100, 0);
        BENCH.due("1 and 1.98", x.stake(0, 8), 2);
        x.take(0, 1);
        BENCH.due("DEBT is 2", x.stake(0, 8), 2);
        BENCH.due("paid", x.pay(0), 2);
        BENCH.due("DEBT is 0", x.stake(0, 8), 0);
    }

    // Promise 12.

    private static void takeAtItsBounds() {
        TickPools x = Bench.plain();
        String before = Bench.picture(x);
        for (int n : Bench.odd(0, 10001)) {
            BENCH.due("take " + n, x.take(0, n), -1);
        }
        for (int n : Bench.odd(-1, 1)) {
            BENCH.due("take of stake " + n, x.take(n, 1), -1);
        }
        BENCH.holds("nothing happened", before.equals(Bench.picture(x)));
        BENCH.due("1", x.take(0, 1), 1);
        BENCH.due("liquidity", x.stake(0, 5), 9999);
        BENCH.due("all but 1", x.take(0, 9998), 1);
        BENCH.due("liquidity", x.stake(0, 5), 1);
        BENCH.due("more than is left", x.take(0, 2), -1);
        BENCH.due("the last 1", x.take(0, 1), 0);
        BENCH.due("it is no more", x.stake(0, 5), -1);
        BENCH.due("nor can it be taken", x.take(0, 1), -1);
        // 465.3 and 465.4: of 9998 there went out 465 and 465, of the ones nothing.
        BENCH.due("dust", x.pool(0, 8), 1);
        BENCH.due("dust", x.pool(0, 9), 1);
        // A part leaves what is owed; all takes it, too.
        x = Bench.plain();
        x.in(1, 0, 0, 494, 0);
        int had = x.purse(0, 0);
        x.take(0, 9999);
        BENCH.due("without what is owed", x.purse(0, 0), had + 953);
        x.take(0, 1);
        BENCH.due("with it", x.purse(0, 0), had + 953 + 3);
    }

    private static void takenStakeLeavesTheOthers() {
        for (int gone = 0; gone < 4; gone++) {
            TickPools x = Bench.made(Bench.PLAIN);
            for (int i = 0; i < 4; i++) {
                x.add(0, 0, 10 + i, 30, 0, 100 + i);
            }
            BENCH.due("take", x.take(gone, 100 + gone), 3);
            BENCH.due("add", x.add(1, 0, 3, 30, 1, 77), 3);
            BENCH.due("add", x.add(1, 0, 4, 30, 1, 78), 4);
            int at = 0;
            for (int i = 0; i < 4; i++) {
                if (i != gone) {
                    BENCH.due("one less behind it", x.stake(at, 2), 10 + i);
                    BENCH.due("its liquidity", x.stake(at, 5), 100 + i);
                    at++;
                }
            }
            BENCH.due("the new one", x.stake(3, 2), 3);
            BENCH.due("its person", x.stake(3, 0), 1);
            BENCH.due("its auto", x.stake(3, 4), 1);
            BENCH.due("its liquidity", x.stake(3, 5), 77);
            BENCH.due("the newest", x.stake(4, 5), 78);
        }
    }

    private static void newStakeOwesNothingOfTheOld() {
        for (int last = 0; last < 2; last++) {
            TickPools x = Bench.plain();
            x.add(0, 0, 0, 1, 0, 1);
            x.in(1, 0, 0, 494, 0);
            x.in(1, 0, 1, 9999, 21);
            BENCH.due("owed of the first", x.stake(0, 8), 3);
            BENCH.due("owed of the second", x.stake(0, 9), 7);
            if (last == 1) {
                x.take(1, 1);
            }
            x.take(0, 10000);
            int at = x.count(3);
            BENCH.due("a new one", x.add(1, 0, 18, 22, 2, 55), at);
            BENCH.due("nothing owed", x.stake(at, 8), 0);
            BENCH.due("nothing owed", x.stake(at, 9), 0);
            BENCH.due("nothing paid", x.pay(at), 0);
            BENCH.due("liquidity", x.stake(at, 5), 55);
        }
        // Of one that could not be added nothing stays, either.
        TickPools x = Bench.plain();
        BENCH.due("too poor", x.add(1, 0, 15, 16, 2, 99999) >= 0 ? 0 : -1, 0);
        BENCH.due("far too poor", x.add(1, 0, 0, 20, 2, 99999), -1);
        BENCH.due("one and no more", x.count(3), 2);
    }

    // Promise 13.

    private static void payAtItsBounds() {
        TickPools x = Bench.plain();
        for (int n : Bench.odd(-1, 1)) {
            BENCH.due("pay of stake " + n, x.pay(n), -1);
        }
        BENCH.due("nothing is owed", x.pay(0), 0);
        x.in(1, 0, 0, 494, 0);
        x.in(1, 0, 1, 9999, 21);
        int first = x.purse(0, 0);
        int second = x.purse(0, 1);
        int heldFirst = x.pool(0, 8);
        int heldSecond = x.pool(0, 9);
        BENCH.due("3 and 7", x.pay(0), 10);
        BENCH.due("purse", x.purse(0, 0) - first, 3);
        BENCH.due("purse", x.purse(0, 1) - second, 7);
        BENCH.due("held", heldFirst - x.pool(0, 8), 3);
        BENCH.due("held", heldSecond - x.pool(0, 9), 7);
        BENCH.due("liquidity as it was", x.stake(0, 5), 10000);
        BENCH.due("nothing more", x.pay(0), 0);
        x.take(0, 10000);
        BENCH.due("of a stake that is no more", x.pay(0), -1);
    }

    // Promise 14.

    private static void levyAtItsBounds() {
        TickPools x = Bench.plain();
        for (int n : Bench.odd(-1, 1)) {
            BENCH.due("levy of pool " + n, x.levy(n), -1);
        }
        BENCH.due("nothing yet", x.levy(0), 0);
        x.in(1, 0, 0, 494, 0);
        x.in(1, 0, 1, 9999, 21);
        int first = x.purse(0, 0);
        int second = x.purse(0, 1);
        int other = x.purse(1, 0);
        BENCH.due("1 and 2", x.levy(0), 3);
        BENCH.due("PERSON 0", x.purse(0, 0) - first, 1);
        BENCH.due("PERSON 0", x.purse(0, 1) - second, 2);
        BENCH.due("not another one", x.purse(1, 0), other);
        BENCH.due("the house has none", x.pool(0, 10) + x.pool(0, 11), 0);
        BENCH.due("nothing more", x.levy(0), 0);
        // All fees, or none, for the house.
        for (int cut = 0; cut <= 100; cut += 100) {
            x = Bench.made("market 2 2;pool 0 1 10 " + cut + " 1 1 1" + PURSES);
            x.add(0, 0, 19, 21, 0, 10000);
            x.in(1, 0, 0, 494, 0);
            BENCH.due("levy of " + cut, x.levy(0), cut == 0 ? 0 : 5);
            BENCH.due("owed of " + cut, x.stake(0, 8), cut == 0 ? 4 : 0);
        }
    }

    // Promises 26, 27 and 7.

    private static void totalsAtTheirBounds() {
        TickPools x = Bench.made("market 4 2;pool 0 1 10 50 1 1 1;pool 1 0 10 50 1 1 1;pool 2 0 0 0 1 1 1"
            + ";purse 0 0 9999999;purse 1 0 9999999;purse 0 1 9999999;purse 0 2 5000;purse 1 2 7");
        for (int pool = 0; pool < 3; pool++) {
            BENCH.due("add", x.add(0, pool, 15, 25, 0, 9999), pool);
        }
        x.in(0, 0, 0, 500, 0);
        x.in(0, 1, 0, 500, 0);
        x.in(0, 2, 1, 500, 40);
        BENCH.due("of thing 0", x.total(0), 19999998);
        BENCH.due("of thing 1", x.total(1), 9999999);
        BENCH.due("of thing 2", x.total(2), 5007);
        BENCH.due("of a thing that nobody has", x.total(3), 0);
        for (int n : Bench.odd(-1, 4)) {
            BENCH.due("of thing " + n, x.total(n), -1);
        }
        x = Bench.made("market 2 4;purse 0 0 9999999;purse 1 0 9999999;purse 2 0 9999999;purse 3 0 9999999");
        BENCH.due("the most there can be", x.total(0), 39999996);
    }

    private static void countsAtTheirBounds() {
        TickPools x = Bench.plain();
        int[] due = {2, 2, 1, 1, 0, 0, 0};
        for (int what = 0; what < due.length; what++) {
            BENCH.due("count " + what, x.count(what), due[what]);
        }
        for (int n : Bench.odd(-1, 7)) {
            BENCH.due("count " + n, x.count(n), -1);
            BENCH.due("count " + n + " without a market", new TickPools().count(n), -1);
        }
        for (int n : Bench.odd(-1, 14)) {
            BENCH.due("pool, what " + n, x.pool(0, n), -1);
        }
        for (int n : Bench.odd(-1, 11)) {
            BENCH.due("stake, what " + n, x.stake(0, n), -1);
        }
        for (int n : Bench.odd(-1, 1)) {
            BENCH.due("pool " + n, x.pool(n, 0), -1);
            BENCH.due("stake " + n, x.stake(n, 0), -1);
        }
        x.feed(0, 0, 0, 0, 0);
        BENCH.due("bytes of the TAPE", x.count(6), 20);
    }

    private static void purseAtItsBounds() {
        TickPools x = Bench.made("market 2 2;purse 0 0 1;purse 0 1 2;purse 1 0 3;purse 1 1 9999999");
        BENCH.due("purse", x.purse(0, 0), 1);
        BENCH.due("purse", x.purse(0, 1), 2);
        BENCH.due("purse", x.purse(1, 0), 3);
        BENCH.due("purse", x.purse(1, 1), 9999999);
        for (int n : Bench.odd(-1, 2)) {
            BENCH.due("purse of person " + n, x.purse(n, 1), -1);
            BENCH.due("purse of thing " + n, x.purse(1, n), -1);
        }
    }

    private static void newMarketBeginsAnew() {
        TickPools x = Bench.plain();
        x.passes(3);
        x.in(1, 0, 0, 494, 0);
        x.passes(3);
        // So that a copy of what there is has been made, too.
        Bench.bundle(x, 1, "in 0 1 9");
        x.round(0, 0, 5);
        BENCH.due("crossed", x.count(5), 2);
        BENCH.due("another market", Bench.market(x, "market 2 2;pool 1 0 0 0 1 1 1;pool 0 1 0 0 1 1 1"), 2);
        int[] due = {2, 2, 2, 0, 0, 0, 0};
        for (int what = 0; what < due.length; what++) {
            BENCH.due("count " + what, x.count(what), due[what]);
        }
        for (int pool = 0; pool < 2; pool++) {
            for (int what = 7; what < 14; what++) {
                BENCH.due("pool " + pool + ", what " + what, x.pool(pool, what), 0);
            }
            BENCH.due("at its first ROOT", x.pool(pool, 6), 100000);
        }
        for (int person = 0; person < 2; person++) {
            BENCH.due("an empty purse", x.purse(person, 0) + x.purse(person, 1), 0);
        }
        BENCH.due("no stake", x.stake(0, 0), -1);
        BENCH.due("none is taken", x.take(0, 1), -1);
    }
}
