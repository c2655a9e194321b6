/** Promises 15 to 20, edge by edge: swaps, their ends and crossings, fees, time and the mean, quotes. */
public final class SwapEdgesTest {
    private static final Bench BENCH = new Bench("SwapEdgesTest");
    private static final String PURSES = ";purse 0 0 100000;purse 0 1 100000;purse 1 0 50000;purse 1 1 50000";

    public static void main(String[] args) {
        inRefused();
        inUpToThePurse();
        endsAroundTheZone();
        endAsNearAsAStake();
        endNearerThanAStake();
        wantedJustThere();
        feesJustAboveAWholeNumber();
        feesAtTheirBounds();
        cutsAtTheirBounds();
        gainOfOneUnit();
        liquidityOfOne();
        nothingStaked();
        nothingStakedOnTheWay();
        atTheOutermostRoots();
        outRefused();
        outUpToWhatIsServed();
        outWithOneLeftAtATick();
        outUpToThePurse();
        outOfTheMost();
        dropsAtTheFarTickAlone();
        dropsOfSeveralAtOnce();
        dropsNothingAtItsEnd();
        dropsNothingOfAnEarlierSwap();
        dropsOnTheWayOfOneSwap();
        crossedTicksAreCounted();
        timeAtItsBounds();
        meanAtItsBounds();
        meanFromTheFirstMarkOn();
        meanDownwards();
        marksOfSwapsAlone();
        eightMarksComeBackBehindAFail();
        marksOfANewMarket();
        quoteInAtItsBounds();
        quoteOutAtItsBounds();
        quotesAskNoPurse();
        BENCH.finish();
    }

    private static void standsAt(TickPools x, int root, int zone) {
        BENCH.due("ROOT", x.pool(0, 6), root);
        BENCH.due("ZONE", x.pool(0, 5), zone);
    }

    // Promise 15.

    private static void inRefused() {
        TickPools x = Bench.plain();
        x.passes(2);
        String before = Bench.picture(x);
        for (int n : Bench.odd(-1, 2)) {
            BENCH.due("in of person " + n, x.in(n, 0, 0, 5, 0), -1);
            BENCH.due("in at side " + n, x.in(1, 0, n, 5, 0), -1);
        }
        for (int n : Bench.odd(-1, 1)) {
            BENCH.due("in of pool " + n, x.in(1, n, 0, 5, 0), -1);
        }
        for (int n : Bench.odd(0, 50001)) {
            BENCH.due("in of amount " + n, x.in(1, 0, 0, n, 0), -1);
            BENCH.due("in of amount " + n, x.in(1, 0, 1, n, 40), -1);
        }
        for (int n : Bench.odd(-1, 41)) {
            BENCH.due("in up to " + n, x.in(1, 0, 0, 5, n), -1);
            BENCH.due("in up to " + n, x.in(1, 0, 1, 5, n), -1);
        }
        // Not even what would make no step: the PURSE must have all that is told.
        BENCH.due("in of too much, without a step", x.in(1, 0, 0, 50001, 40), -1);
        BENCH.holds("nothing happened", before.equals(Bench.picture(x)));
    }

    private static void inUpToThePurse() {
        TickPools x = Bench.made("market 2 2;pool 0 1 10 20 1 1 1;purse 0 0 9999;purse 0 1 9999;purse 1 0 1;purse 1 1 100");
        x.add(0, 0, 19, 21, 0, 10000);
        BENCH.due("one more than all", x.in(1, 0, 1, 101, 40), -1);
        BENCH.due("all of it", x.in(1, 0, 1, 100, 40), 98);
        BENCH.due("purse", x.purse(1, 1), 0);
        BENCH.due("nothing is left to come in", x.in(1, 0, 1, 1, 40), -1);
        BENCH.due("the other purse", x.purse(1, 0), 99);
        BENCH.due("all of that", x.in(1, 0, 0, 99, 0), 98);
        BENCH.due("purse", x.purse(1, 0), 0);
    }

    private static void endsAroundTheZone() {
        TickPools x = Bench.plain();
        // ZONE is 20, and the root that of tick 20.
        BENCH.quoteInIs(x, 0, 700, 21, 0, 700, 0, 20, 0);
        BENCH.quoteInIs(x, 0, 700, 40, 0, 700, 0, 20, 0);
        BENCH.quoteInIs(x, 0, 700, 20, 0, 700, 0, 20, 0);
        BENCH.quoteInIs(x, 0, 700, 19, 465, 206, 5, 19, 0);
        BENCH.quoteInIs(x, 1, 700, 20, 0, 700, 0, 20, 0);
        BENCH.quoteInIs(x, 1, 700, 0, 0, 700, 0, 20, 0);
        BENCH.quoteInIs(x, 1, 700, 21, 465, 207, 5, 20, 0);
        String before = Bench.picture(x);
        BENCH.due("no step down", x.in(1, 0, 0, 700, 21), 0);
        BENCH.due("no step up", x.in(1, 0, 1, 700, 20), 0);
        BENCH.holds("all is as it was", before.equals(Bench.picture(x)));
        BENCH.due("up to 21", x.in(1, 0, 1, 700, 21), 465);
        standsAt(x, 104880, 20);
        // At its end: again that is a step of nothing, beyond it there is more.
        BENCH.quoteInIs(x, 1, 9, 21, 0, 9, 0, 20, 0);
        BENCH.quoteInIs(x, 1, 9, 22, 0, 9, 0, 21, 1);
        // All at once: SECOND is 488 wholly.
        BENCH.due("down to 20", x.in(1, 0, 0, 700, 20), 488);
        standsAt(x, 100000, 20);
    }

    private static void endAsNearAsAStake() {
        TickPools x = Bench.plain();
        // Tick 19 is the END and the LOW of the stake: it is not crossed.
        BENCH.quoteInIs(x, 0, 9999, 19, 465, 9999 - 494, 5, 19, 0);
        BENCH.quoteInIs(x, 0, 9999, 18, 465, 9999 - 494, 5, 18, 1);
        BENCH.quoteInIs(x, 1, 9999, 21, 465, 9999 - 493, 5, 20, 0);
        BENCH.quoteInIs(x, 1, 9999, 22, 465, 9999 - 493, 5, 21, 1);
        BENCH.due("down", x.in(1, 0, 0, 9999, 19), 465);
        standsAt(x, 95346, 19);
        BENCH.due("still IN", x.stake(0, 10), 1);
        BENCH.due("not crossed", x.count(5), 0);
        BENCH.due("up, in one step", x.in(1, 0, 1, 9999, 21), 953);
        standsAt(x, 104880, 20);
        BENCH.due("still IN", x.stake(0, 10), 1);
        BENCH.due("not crossed", x.count(5), 0);
    }

    private static void endNearerThanAStake() {
        TickPools x = Bench.made(Bench.PLAIN);
        x.add(0, 0, 15, 25, 0, 10000);
        // FIRST 488.1 and SECOND 465.4 down to tick 19, with a fee of 4.9.
        BENCH.quoteInIs(x, 0, 9999, 19, 465, 9999 - 494, 5, 19, 0);
        BENCH.due("down", x.in(1, 0, 0, 9999, 19), 465);
        standsAt(x, 95346, 19);
        BENCH.due("not crossed", x.count(5), 0);
        // Down again, where no stake begins or ends, from the root of its own tick.
        BENCH.quoteInIs(x, 0, 9999, 19, 0, 9999, 0, 19, 0);
        // 10^9 * 4437 / (90909 * 95346) = 511.9; fee 5.1; SECOND 443.7.
        BENCH.quoteInIs(x, 0, 9999, 18, 443, 9999 - 518, 6, 18, 0);
    }

    private static void wantedJustThere() {
        TickPools x = Bench.plain();
        // 489 and a fee of 5; 493 are one too few, though n is 488 and no more comes out by the last one.
        BENCH.quoteInIs(x, 0, 493, 0, 465, 0, 5, 19, 0);
        BENCH.quoteInIs(x, 0, 494, 0, 465, 0, 5, 18, 1);
        BENCH.quoteInIs(x, 0, 495, 0, 465, 1, 5, 0, 1);
        BENCH.quoteInIs(x, 1, 492, 40, 464, 0, 5, 20, 0);
        BENCH.quoteInIs(x, 1, 493, 40, 465, 0, 5, 21, 1);
        BENCH.quoteInIs(x, 1, 494, 40, 465, 1, 5, 39, 1);
        // Without fees: 489 and 488.
        x = Bench.made("market 2 2;pool 0 1 0 0 1 1 1" + PURSES);
        x.add(0, 0, 19, 21, 0, 10000);
        BENCH.quoteInIs(x, 0, 488, 0, 465, 0, 0, 19, 0);
        BENCH.quoteInIs(x, 0, 489, 0, 465, 0, 0, 18, 1);
        BENCH.quoteInIs(x, 1, 487, 40, 464, 0, 0, 20, 0);
        BENCH.quoteInIs(x, 1, 488, 40, 465, 0, 0, 21, 1);
    }

    private static void feesJustAboveAWholeNumber() {
        // 20491 * 4880 / 100000 is 999.96: 1000, of which the fee is 1000 / 999: 2. 20471 want 999, with 1.
        int[] staked = {20471, 20491};
        int[] wanted = {999, 1000};
        int[] fees = {1, 2};
        for (int i = 0; i < 2; i++) {
            TickPools x = Bench.made("market 2 2;pool 0 1 1 0 1 1 1" + PURSES);
            x.add(0, 0, 20, 21, 0, staked[i]);
            int all = wanted[i] + fees[i];
            int given = x.quoteIn(0, 1, 9999, 21, 0);
            BENCH.quoteInIs(x, 1, 9999, 21, given, 9999 - all, fees[i], 20, 0);
            BENCH.quoteInIs(x, 1, all, 40, given, 0, fees[i], 21, 1);
            BENCH.due("one less does not do", x.quoteIn(0, 1, all - 1, 40, 3), 20);
            BENCH.quoteOutIs(x, 1, given, all, fees[i], 21, 1);
        }
        // A loan of 91 with 11 of a thousand wants 1.001: 2; of 1000 with 1 just 1.
        TickPools x = Bench.made("market 2 2;pool 0 1 11 0 1 1 1" + PURSES);
        x.add(0, 0, 19, 21, 0, 10000);
        BENCH.due("lend", Bench.bundle(x, 1, "lend 0 0 91 [least 0 0]"), 2);
        BENCH.due("2 of it", x.purse(1, 0), 49998);
        x = Bench.made("market 2 2;pool 0 1 1 0 1 1 1" + PURSES);
        x.add(0, 0, 19, 21, 0, 50000);
        BENCH.due("lend", Bench.bundle(x, 1, "lend 0 0 1000 [least 0 0]"), 2);
        BENCH.due("1 of it", x.purse(1, 0), 49999);
    }

    private static void feesAtTheirBounds() {
        // 18463 * 4880 / 100000 is 900.99: 901, of which the fee is 99 wholly; 902 want 99.1: 100.
        TickPools x = Bench.made("market 2 2;pool 0 1 99 0 1 1 1" + PURSES);
        x.add(0, 0, 20, 21, 0, 18463);
        BENCH.quoteInIs(x, 1, 1000, 40, 859, 0, 99, 21, 1);
        BENCH.quoteInIs(x, 1, 999, 40, 858, 0, 99, 20, 0);
        BENCH.quoteOutIs(x, 1, 859, 1000, 99, 21, 1);
        x.add(0, 0, 20, 21, 0, 1);
        BENCH.quoteInIs(x, 1, 9999, 40, 859, 9999 - 1002, 100, 39, 1);
        BENCH.quoteOutIs(x, 1, 859, 1002, 100, 21, 1);
        // None at all.
        x = Bench.made("market 2 2;pool 0 1 0 100 1 1 1" + PURSES);
        x.add(0, 0, 20, 21, 0, 18463);
        BENCH.quoteInIs(x, 1, 901, 40, 859, 0, 0, 21, 1);
        BENCH.quoteOutIs(x, 1, 859, 901, 0, 21, 1);
        BENCH.quoteInIs(x, 1, 900, 40, 858, 0, 0, 20, 0);
        BENCH.due("in", x.in(1, 0, 1, 901, 40), 859);
        BENCH.due("nothing for the house", x.pool(0, 11), 0);
        BENCH.due("nothing owed", x.stake(0, 9), 0);
    }

    private static void cutsAtTheirBounds() {
        int[] cuts = {0, 1, 49, 50, 99, 100};
        int[] ofOne = {0, 0, 0, 0, 0, 1};
        int[] ofTwo = {0, 0, 0, 1, 1, 2};
        int[] ofHundred = {0, 1, 49, 50, 99, 100};
        for (int i = 0; i < cuts.length; i++) {
            // n of 1 is 0, of 12 it is 10.8: 10, of 1010 910.01: 910.
            TickPools x = Bench.made("market 2 2;pool 0 1 99 " + cuts[i] + " 1 1 1" + PURSES);
            x.add(0, 0, 10, 30, 0, 99999);
            BENCH.due("fee of 1", x.quoteIn(0, 0, 1, 0, 2), 1);
            x.in(1, 0, 0, 1, 0);
            BENCH.due("cut " + cuts[i] + " of 1", x.pool(0, 10), ofOne[i]);
            x.levy(0);
            BENCH.due("fee of 12", x.quoteIn(0, 0, 12, 0, 2), 2);
            x.in(1, 0, 0, 12, 0);
            BENCH.due("cut " + cuts[i] + " of 2", x.pool(0, 10), ofTwo[i]);
            x.levy(0);
            BENCH.due("fee of 1010", x.quoteIn(0, 0, 1010, 0, 2), 100);
            x.in(1, 0, 0, 1010, 0);
            BENCH.due("cut " + cuts[i] + " of 100", x.pool(0, 10), ofHundred[i]);
        }
    }

    private static void gainOfOneUnit() {
        // 1048576 / 1024 is 1024 wholly: of a fee of 1 just 1 is owed. Of 1025 there are 1023, and 0.99.
        for (int staked = 1024; staked <= 1025; staked++) {
            TickPools x = Bench.made("market 2 2;pool 0 1 99 0 1 1 1" + PURSES);
            x.add(0, 0, 10, 30, 0, staked);
            x.in(1, 0, 0, 1, 0);
            BENCH.due("owed to " + staked, x.stake(0, 8), staked == 1024 ? 1 : 0);
            x.in(1, 0, 1, 1, 40);
            BENCH.due("owed to " + staked, x.stake(0, 9), staked == 1024 ? 1 : 0);
        }
        // Shared by what each has: 3 of 4 and 1 of 4 of a fee of 4.
        TickPools x = Bench.made("market 2 2;pool 0 1 99 0 1 1 1" + PURSES);
        x.add(0, 0, 10, 30, 0, 3072);
        x.add(1, 0, 10, 30, 0, 1024);
        BENCH.due("fee of 40", x.quoteIn(0, 0, 40, 0, 2), 4);
        x.in(1, 0, 0, 40, 0);
        BENCH.due("3 of it", x.stake(0, 8), 3);
        BENCH.due("1 of it", x.stake(1, 8), 1);
    }

    private static void liquidityOfOne() {
        String end = " 1 1;purse 0 0 9999;purse 0 1 9999";
        TickPools x = Bench.made("market 2 1;pool 0 1 0 0 1" + end);
        x.add(0, 0, 0, 40, 0, 1);
        // 1.59 are wanted down, 1.59 up: by 1 the root is halved, or twice what it was; half of 1 comes out.
        BENCH.quoteInIs(x, 0, 1, 0, 0, 0, 0, 5, 0);
        BENCH.quoteInIs(x, 1, 1, 40, 0, 0, 0, 34, 0);
        BENCH.quoteInIs(x, 0, 2, 0, 0, 0, 0, 0, 0);
        BENCH.quoteInIs(x, 1, 2, 40, 0, 0, 0, 39, 0);
        TickPools y = Bench.made("market 2 1;pool 0 1 0 0 1" + end);
        y.add(0, 0, 0, 40, 0, 1);
        y.in(0, 0, 0, 1, 0);
        standsAt(y, 50000, 5);
        x.in(0, 0, 1, 1, 40);
        standsAt(x, 200000, 34);
        // Out of 2.2: one less of 259374 by 100000, and 38554 up to 10^5 * 38554 / (10^5 - 38554) = 62744.5.
        x = Bench.made("market 2 1;pool 0 1 0 0 1 9999" + end.substring(2));
        x.add(0, 0, 0, 40, 0, 1);
        BENCH.quoteOutIs(x, 0, 1, 1, 0, 29, 0);
        BENCH.quoteOutIs(x, 0, 3, -2, -2, -2, -2);
        BENCH.due("out", x.out(0, 0, 0, 1), 1);
        standsAt(x, 159374, 29);
        x = Bench.made("market 2 1;pool 0 1 0 0 1 1 9999" + end.substring(4));
        x.add(0, 0, 0, 40, 0, 1);
        BENCH.quoteOutIs(x, 1, 1, 1, 0, 10, 0);
        BENCH.due("out", x.out(0, 0, 1, 1), 1);
        standsAt(x, 62745, 10);
        // The whole of a fee.
        x = Bench.made("market 2 1;pool 0 1 99 0 1" + end);
        x.add(0, 0, 0, 40, 0, 1);
        x.in(0, 0, 0, 1, 0);
        BENCH.due("owed", x.stake(0, 8), 1);
        BENCH.due("the root stays", x.pool(0, 6), 100000);
    }

    private static void nothingStaked() {
        TickPools x = Bench.made(Bench.PLAIN);
        BENCH.quoteInIs(x, 0, 1, 0, 0, 1, 0, 0, 0);
        BENCH.quoteInIs(x, 1, 9999999, 40, 0, 9999999, 0, 39, 0);
        BENCH.quoteInIs(x, 0, 5, 20, 0, 5, 0, 20, 0);
        BENCH.quoteOutIs(x, 0, 1, -2, -2, -2, -2);
        BENCH.quoteOutIs(x, 1, 1, -2, -2, -2, -2);
        BENCH.due("in", x.in(1, 0, 0, 50000, 7), 0);
        standsAt(x, 53820, 7);
        BENCH.due("nothing came in", x.purse(1, 0), 50000);
        BENCH.due("in", x.in(1, 0, 1, 50000, 33), 0);
        standsAt(x, 185802, 32);
        BENCH.due("nothing came in", x.purse(1, 1), 50000);
        BENCH.due("out", x.out(1, 0, 1, 1), -2);
        standsAt(x, 185802, 32);
        BENCH.due("nothing crossed", x.count(5), 0);
    }

    private static void nothingStakedOnTheWay() {
        TickPools x = Bench.made(Bench.PLAIN);
        x.add(0, 0, 10, 12, 0, 10000);
        x.add(0, 0, 28, 30, 0, 10000);
        // Ticks 12, then 10; 30 at 28 and 30: the ways between want nothing and give nothing.
        BENCH.due("one is enough to get there", x.quoteIn(0, 0, 1, 0, 3), 11);
        BENCH.due("ticks crossed", x.quoteIn(0, 0, 1, 0, 4), 1);
        BENCH.due("one is enough to get there", x.quoteIn(0, 1, 1, 40, 3), 28);
        BENCH.due("ticks crossed", x.quoteIn(0, 1, 9999, 40, 4), 2);
        // FIRST 10^9 * 6209 / (62092 * 68301) = 1464.1, SECOND 620.9 between ticks 10 and 12; fee 14.8.
        BENCH.quoteInIs(x, 0, 9999, 0, 620, 9999 - 1465 - 15, 15, 0, 2);
        BENCH.due("out through the gap", x.out(1, 0, 0, 620) > 0 ? 1 : 0, 1);
        BENCH.due("ticks crossed", x.count(5), 2);
    }

    private static void atTheOutermostRoots() {
        TickPools x = Bench.made("market 2 1;pool 0 1 10 0 1 1 9999;purse 0 0 99999;purse 0 1 99999");
        x.add(0, 0, 0, 2, 0, 10000);
        standsAt(x, 38554, 0);
        BENCH.quoteInIs(x, 0, 50, 0, 0, 50, 0, 0, 0);
        BENCH.quoteOutIs(x, 0, 1, -2, -2, -2, -2);
        BENCH.due("in", x.in(0, 0, 0, 50, 0), 0);
        standsAt(x, 38554, 0);
        BENCH.due("up and down again", x.in(0, 0, 1, 50, 40) > 0 && x.in(0, 0, 0, 9999, 0) > 0 ? 1 : 0, 1);
        standsAt(x, 38554, 0);
        BENCH.due("tick 0 is never crossed", x.count(5), 0);
        BENCH.due("the stake is IN", x.stake(0, 10), 1);
        x = Bench.made("market 2 1;pool 0 1 10 0 1 9999 1;purse 0 0 99999;purse 0 1 99999");
        x.add(0, 0, 38, 40, 1, 10000);
        standsAt(x, 259374, 39);
        BENCH.quoteInIs(x, 1, 50, 40, 0, 50, 0, 39, 0);
        BENCH.quoteOutIs(x, 1, 1, -2, -2, -2, -2);
        BENCH.due("down and up again", x.in(0, 0, 0, 50, 0) > 0 && x.in(0, 0, 1, 9999, 40) > 0 ? 1 : 0, 1);
        standsAt(x, 259374, 39);
        BENCH.due("tick 40 is never crossed", x.count(5), 0);
        BENCH.due("so the stake stays", x.count(3), 1);
    }

    // Promise 16.

    private static void outRefused() {
        TickPools x = Bench.plain();
        x.passes(2);
        String before = Bench.picture(x);
        for (int n : Bench.odd(-1, 2)) {
            BENCH.due("out of person " + n, x.out(n, 0, 0, 5), -1);
            BENCH.due("out at side " + n, x.out(1, 0, n, 5), -1);
        }
        for (int n : Bench.odd(-1, 1)) {
            BENCH.due("out of pool " + n, x.out(1, n, 0, 5), -1);
        }
        for (int n : Bench.odd(0, 10000000)) {
            BENCH.due("out of amount " + n, x.out(1, 0, 0, n), -1);
        }
        BENCH.due("out of the most", x.out(1, 0, 0, 9999999), -2);
        BENCH.holds("nothing happened", before.equals(Bench.picture(x)));
    }

    private static void outUpToWhatIsServed() {
        TickPools x = Bench.plain();
        // 465.4 down, 465.29 up.
        BENCH.due("down", x.quoteOut(0, 0, 465, 0), 494);
        BENCH.due("too much", x.quoteOut(0, 0, 466, 0), -2);
        BENCH.due("up", x.quoteOut(0, 1, 465, 0), 493);
        BENCH.due("too much", x.quoteOut(0, 1, 466, 0), -2);
        // One less than is served is no tick crossed: 464 of it want root 95360, and 486.6: 487, fee 4.9.
        BENCH.quoteOutIs(x, 0, 464, 492, 5, 19, 0);
        BENCH.quoteOutIs(x, 0, 465, 494, 5, 18, 1);
        BENCH.quoteOutIs(x, 0, 1, 3, 1, 19, 0);
        BENCH.due("out", x.out(1, 0, 0, 464), 492);
        standsAt(x, 95360, 19);
        // 1.4 are there yet, and what 1 wants.
        BENCH.due("two more", x.out(1, 0, 0, 2), -2);
        BENCH.due("one more", x.out(1, 0, 0, 1), 3);
        BENCH.due("crossed", x.count(5), 1);
    }

    private static void outWithOneLeftAtATick() {
        TickPools x = Bench.plain();
        x.add(0, 0, 17, 19, 0, 20000);
        x.add(0, 0, 21, 23, 0, 20000);
        // 465 up to the tick, and 1 of the next stake: root 5 less, FIRST 1.1: 2, fee 1.
        BENCH.quoteOutIs(x, 0, 465, 494, 5, 18, 1);
        BENCH.quoteOutIs(x, 0, 466, 494 + 3, 6, 18, 1);
        // 2 * 10^9 * 104880 / (2 * 10^9 - 104880) = 104885.5; SECOND 1.2: 2, fee 1.
        BENCH.quoteOutIs(x, 1, 465, 493, 5, 21, 1);
        BENCH.quoteOutIs(x, 1, 466, 493 + 3, 6, 21, 1);
        BENCH.due("out", x.out(1, 0, 0, 466), 497);
        standsAt(x, 95341, 18);
        BENCH.due("purse", x.purse(1, 1), 50466);
        // By in, too: 494 up to the tick, and 1 that is all fee.
        x = Bench.plain();
        x.add(0, 0, 17, 19, 0, 20000);
        BENCH.quoteInIs(x, 0, 494, 0, 465, 0, 5, 18, 1);
        BENCH.quoteInIs(x, 0, 495, 0, 465, 0, 6, 18, 1);
    }

    private static void outUpToThePurse() {
        for (int have = 493; have <= 494; have++) {
            TickPools x = Bench.made("market 2 2;pool 0 1 10 20 1 1 1;purse 0 0 9999;purse 0 1 9999;purse 1 0 " + have);
            x.add(0, 0, 19, 21, 1, 10000);
            x.passes(3);
            String before = Bench.picture(x);
            BENCH.due("out with " + have, x.out(1, 0, 0, 465), have == 494 ? 494 : -3);
            BENCH.due("purse", x.purse(1, 0), have == 494 ? 0 : 493);
            BENCH.holds("nothing happened", have == 494 || before.equals(Bench.picture(x)));
            BENCH.due("can't be, whatever the purse", x.out(1, 0, 0, 466), -2);
        }
        // With none of it at all.
        TickPools x = Bench.plain();
        TickPools poor = Bench.made("market 2 3;pool 0 1 10 20 1 1 1" + PURSES);
        poor.add(0, 0, 19, 21, 0, 10000);
        BENCH.due("nobody's purse", poor.out(2, 0, 0, 1), -3);
        BENCH.due("as quoted", x.quoteOut(0, 0, 1, 0), 3);
    }

    private static void outOfTheMost() {
        TickPools x = Bench.made("market 2 3;pool 0 1 0 0 1 9999 1;purse 0 1 9999999;purse 1 1 9999999;purse 2 0 9999999");
        for (int i = 0; i < 50; i++) {
            BENCH.holds("staked", x.add(i % 2, 0, 0, 40, i / 20, 99999) >= 0);
        }
        BENCH.holds("it holds more than an AMOUNT", x.pool(0, 9) > 11000000);
        int wanted = x.quoteOut(0, 0, 9999999, 0);
        BENCH.holds("the most can be", wanted > 0);
        BENCH.due("one more is no AMOUNT", x.quoteOut(0, 0, 10000000, 0), -1);
        BENCH.due("out", x.out(2, 0, 0, 9999999), wanted);
        BENCH.due("purse", x.purse(2, 1), 9999999);
        TickPools y = Bench.made("market 2 3;pool 0 1 0 0 1 9999 1;purse 0 1 9999999;purse 1 1 9999999;purse 2 0 9999999");
        for (int i = 0; i < 50; i++) {
            y.add(i % 2, 0, 0, 40, i / 20, 99999);
        }
        BENCH.due("in a bundle, too", Bench.bundle(y, 2, "out 0 0 9999999"), 1);
        BENCH.holds("as by hand", Bench.picture(x).equals(Bench.picture(y)));
    }

    private static void dropsAtTheFarTickAlone() {
        // LOW, HIGH, AUTO, SIDE, and how many stakes there are then.
        int[][] cases = {
            {19, 21, 0, 0, 1}, {19, 21, 1, 0, 1}, {19, 21, 2, 0, 0}, {19, 21, 0, 1, 1}, {19, 21, 1, 1, 0}, {19, 21, 2, 1, 1},
            // Those that are entered: at HIGH downwards, at LOW upwards, though never left.
            {0, 19, 2, 0, 1}, {0, 19, 1, 0, 1}, {21, 40, 1, 1, 1}, {21, 40, 2, 1, 1},
            // Those that are entered and left.
            {17, 19, 2, 0, 0}, {17, 19, 1, 0, 1}, {21, 23, 1, 1, 0}, {21, 23, 2, 1, 1},
        };
        for (int[] c : cases) {
            TickPools x = Bench.made(Bench.PLAIN);
            x.add(0, 0, c[0], c[1], c[2], 1000);
            x.in(1, 0, c[3], 9999, c[3] == 0 ? 0 : 40);
            BENCH.due("stake " + c[0] + " to " + c[1] + " of auto " + c[2] + ", side " + c[3], x.count(3), c[4]);
            BENCH.due("total", x.total(0), 150000);
            BENCH.due("total", x.total(1), 150000);
        }
    }

    private static void dropsOfSeveralAtOnce() {
        TickPools x = Bench.made("market 2 2;pool 0 1 99 0 1 1 1;pool 0 1 99 0 1 1 1" + PURSES);
        x.add(0, 0, 19, 21, 2, 1000);
        x.add(0, 0, 19, 20, 2, 1000);
        x.add(1, 0, 19, 22, 2, 1000);
        x.add(1, 0, 18, 22, 2, 1000);
        x.add(0, 1, 19, 21, 2, 1000);
        x.add(0, 0, 19, 21, 1, 1000);
        int first = x.purse(0, 0);
        int other = x.purse(1, 0);
        int given = x.in(1, 0, 0, 9999, 19);
        BENCH.due("none at its END", x.count(3), 6);
        BENCH.due("and on, across 19", x.in(1, 0, 0, 1, 18), 0);
        BENCH.due("three are gone", x.count(3), 3);
        BENCH.due("one of 18", x.stake(0, 2), 18);
        BENCH.due("one of the other pool", x.stake(1, 1), 1);
        BENCH.due("one of auto 1", x.stake(2, 4), 1);
        BENCH.holds("they went into their purses", x.purse(0, 0) > first && x.purse(1, 0) > other - 500 && given > 0);
        BENCH.due("total", x.total(0), 150000);
        BENCH.due("total", x.total(1), 150000);
        // 1000 from 19 to 21 are 95.3, from 19 to 20 48.8, of the first thing. The five of 5000 in zone 19 wanted
        // 244.06: 245, with a fee of 26.9: 27, of which 5.4 are owed to each.
        BENCH.due("95 and 48, and what was owed", x.purse(0, 0) - first, 95 + 48 + 2 * 5);
    }

    private static void dropsNothingAtItsEnd() {
        TickPools x = Bench.made("market 2 1;pool 0 1 0 0 1 1 9999;purse 0 0 99999;purse 0 1 99999");
        x.add(0, 0, 0, 40, 2, 10);
        x.in(0, 0, 1, 9999, 40);
        x.add(0, 0, 0, 40, 1, 10);
        x.in(0, 0, 0, 9999, 0);
        x.in(0, 0, 1, 9999, 40);
        x.in(0, 0, 0, 9999, 0);
        BENCH.due("there and back, both stay", x.count(3), 2);
        BENCH.due("ticks 0 and 40 are ends, not crossed", x.count(5), 0);
    }

    private static void dropsNothingOfAnEarlierSwap() {
        // Tick 19 is crossed in pool 0; then pool 1 moves, and a stake of it has its far tick there.
        TickPools x = Bench.made("market 2 1;pool 0 1 0 0 1 1 1;pool 0 1 0 0 1 1 1;purse 0 0 99999;purse 0 1 99999");
        x.add(0, 0, 19, 21, 0, 1000);
        x.add(0, 1, 19, 21, 2, 1000);
        x.in(0, 0, 0, 9999, 0);
        BENCH.due("crossed", x.count(5), 1);
        x.in(0, 1, 0, 1, 0);
        BENCH.due("not dropped by it", x.count(3), 2);
        x.out(0, 1, 0, 1);
        BENCH.due("not dropped by it", x.count(3), 2);
        // The same tick in one pool: crossed upwards, then it goes down a little.
        x = Bench.made("market 2 1;pool 0 1 0 0 1 1 1;purse 0 0 99999;purse 0 1 99999");
        x.add(0, 0, 15, 20, 0, 1000);
        x.add(0, 0, 20, 25, 2, 1000);
        x.in(0, 0, 0, 1, 0);
        BENCH.due("dropped downwards", x.count(3), 1);
        x.add(0, 0, 20, 25, 2, 1000);
        x.in(0, 0, 1, 60, 40);
        BENCH.due("crossed upwards", x.count(5), 2);
        BENCH.due("zone", x.pool(0, 5), 21);
        x.in(0, 0, 0, 2, 0);
        BENCH.due("not dropped by a step short of it", x.count(3), 2);
    }

    private static void dropsOnTheWayOfOneSwap() {
        TickPools x = Bench.made("market 2 2;pool 0 1 0 0 1 1 1" + PURSES);
        x.add(0, 0, 18, 21, 0, 1000);
        x.add(0, 0, 19, 21, 2, 1000);
        x.add(0, 0, 17, 18, 2, 1000);
        int quoted = x.quoteIn(0, 0, 9999, 0, 0);
        BENCH.due("in as quoted", x.in(1, 0, 0, 9999, 0), quoted);
        // 93.08 of both down to 19, 44.37 of the one down to 18, 42.31 of the last.
        BENCH.due("93 and 44 and 42", quoted, 93 + 44 + 42);
        BENCH.due("ticks 19, 18 and 17", x.count(5), 3);
        BENCH.due("the lasting one is there", x.count(3), 1);
        BENCH.due("back through that one alone", x.quoteIn(0, 1, 9999, 40, 4), 2);
    }

    private static void crossedTicksAreCounted() {
        TickPools x = Bench.made("market 2 2;pool 0 1 0 0 1 1 1;pool 0 1 0 0 1 1 1" + PURSES);
        for (int pool = 0; pool < 2; pool++) {
            x.add(0, pool, 18, 22, 0, 100);
            x.add(0, pool, 19, 21, 0, 100);
        }
        x.quoteIn(0, 0, 9999, 0, 4);
        x.quoteOut(0, 0, 5, 3);
        x.round(0, 0, 9999);
        x.least(0, 0, 0);
        x.route(0, 1, 999, 0);
        x.parts(0, 1, 99, 0);
        x.ring(0, 0);
        BENCH.due("by what is asked none", x.count(5), 0);
        x.in(1, 0, 0, 9999, 0);
        BENCH.due("19 and 18", x.count(5), 2);
        x.in(1, 0, 1, 9999, 40);
        BENCH.due("18, 19, 21, 22", x.count(5), 6);
        BENCH.due("out", x.out(1, 1, 0, 9) > 0 ? 1 : 0, 1);
        BENCH.due("19 of pool 1", x.count(5), 7);
        BENCH.due("a bundle that fails", Bench.bundle(x, 1, "in 1 0 9999;in 1 0 0") < -2 ? 1 : 0, 1);
        BENCH.due("counts none", x.count(5), 7);
        BENCH.due("a bundle", Bench.bundle(x, 1, "in 1 0 9999"), 1);
        BENCH.due("18 of pool 1", x.count(5), 8);
    }

    // Promises 17 and 18.

    private static void timeAtItsBounds() {
        TickPools x = Bench.made(Bench.PLAIN);
        for (int n : Bench.odd(0, 10000)) {
            BENCH.due("passes " + n, x.passes(n), -1);
        }
        BENCH.due("passes -1", x.passes(-1), -1);
        BENCH.due("TIME", x.count(4), 0);
        BENCH.due("passes 9999", x.passes(9999), 9999);
        BENCH.due("passes 1", x.passes(1), 10000);
        BENCH.due("TIME", x.count(4), 10000);
        TickPools none = new TickPools();
        BENCH.due("without a MARKET", none.passes(1), -1);
        // No run of 512 calls comes to the last TIME; it holds there all the same.
        for (int i = 0; i < 999; i++) {
            x.passes(9999);
        }
        BENCH.due("near the last", x.count(4), 9999001);
        BENCH.due("beyond 9999999", x.passes(999), -1);
        BENCH.due("TIME", x.count(4), 9999001);
        BENCH.due("up to it", x.passes(998), 9999999);
        BENCH.due("no further", x.passes(1), -1);
        BENCH.due("mean of all", x.mean(0, 9999999), 20);
        BENCH.due("mean of more", x.mean(0, 10000000), -2);
    }

    private static void meanAtItsBounds() {
        TickPools x = Bench.made(Bench.PLAIN);
        for (int n : new int[] {0, -1, Integer.MIN_VALUE}) {
            BENCH.due("mean of " + n, x.mean(0, n), -1);
        }
        for (int n : Bench.odd(-1, 1)) {
            BENCH.due("mean of pool " + n, x.mean(n, 1), -1);
        }
        BENCH.due("at TIME 0 no second has gone", x.mean(0, 1), -2);
        x.passes(4);
        BENCH.due("1", x.mean(0, 1), 20);
        BENCH.due("4", x.mean(0, 4), 20);
        BENCH.due("5", x.mean(0, 5), -2);
        BENCH.due("the most", x.mean(0, Integer.MAX_VALUE), -2);
        BENCH.due("wrong n goes ahead of not known", x.mean(0, 0), -1);
    }

    /** Pool 0 holds nothing, so it can be sent to any tick; a MARK at each of the times told. */
    private static TickPools marked(int swaps, int apart) {
        TickPools x = Bench.made(Bench.PLAIN);
        for (int i = 1; i <= swaps; i++) {
            x.passes(apart);
            x.in(0, 0, 0, 1, 0);
            x.in(0, 0, 1, 1, i + 1);
        }
        return x;
    }

    private static void meanFromTheFirstMarkOn() {
        for (int swaps = 5; swaps <= 12; swaps++) {
            TickPools x = marked(swaps, 3);
            x.passes(2);
            // MARKS at 0, 3, 6 and so on, the last 8: the first there is at 3 * (swaps - 7), or 0.
            int first = 3 * Math.max(0, swaps - 7);
            int known = x.count(4) - first;
            BENCH.holds("known from the first MARK on, " + swaps, x.mean(0, known) >= 0);
            BENCH.due("not ahead of it, " + swaps, x.mean(0, known + 1), -2);
        }
    }

    private static void meanDownwards() {
        // 3 seconds in zone 20, then 3 in zone 1, 3 in zone 2, and 2 in zone 3.
        TickPools x = marked(3, 3);
        x.passes(2);
        int[] zones = {20, 20, 20, 1, 1, 1, 2, 2, 2, 3, 3};
        int sum = 0;
        for (int n = 1; n <= zones.length; n++) {
            sum += zones[zones.length - n];
            BENCH.due("mean of " + n, x.mean(0, n), sum / n);
        }
        BENCH.due("2.5, downwards", x.mean(0, 4), 2);
    }

    private static void marksOfSwapsAlone() {
        // 7 MARKS behind that of TIME 0: an eighth swap at another TIME makes that one go.
        TickPools x = marked(7, 1);
        x.add(0, 0, 7, 9, 0, 10000);
        x.passes(1);
        int known = x.count(4);
        x.quoteIn(0, 0, 5, 0, 0);
        x.quoteOut(0, 0, 5, 0);
        x.round(0, 0, 5);
        x.least(0, 0, 0);
        x.route(0, 1, 5, 0);
        x.parts(0, 1, 50, 0);
        x.ring(0, 0);
        BENCH.due("refused", x.in(1, 0, 0, 0, 0), -1);
        BENCH.due("can't be", x.out(1, 0, 0, 9999999), -2);
        BENCH.due("fails", Bench.bundle(x, 1, "in 0 0 5;in 0 0 0"), Bench.fault(9, 5));
        BENCH.due("lend", Bench.bundle(x, 1, "lend 0 1 5 [least 0 0];add 0 7 9 5;drop 0 7 9"), 4);
        x.take(0, 1);
        x.pay(0);
        x.levy(0);
        BENCH.holds("no MARK by these", x.mean(0, known) >= 0);
        BENCH.due("a swap without a step", x.in(1, 0, 0, 5, 40), 0);
        BENCH.due("makes one", x.mean(0, known), -2);
        BENCH.holds("the next is there", x.mean(0, known - 1) >= 0);
        // At a TIME at which there is one none is made.
        x.in(1, 0, 0, 5, 0);
        x.in(1, 0, 1, 5, 40);
        x.out(1, 0, 1, 1);
        BENCH.holds("the next is there yet", x.mean(0, known - 1) >= 0);
        BENCH.due("a bundle's swap at another TIME", x.passes(1), 9);
        BENCH.due("makes one", Bench.bundle(x, 1, "in 0 1 5"), 1);
        BENCH.due("another one is gone", x.mean(0, x.count(4) - 1), -2);
        // Each POOL has its own.
        TickPools y = Bench.made("market 2 2;pool 0 1 0 0 1 1 1;pool 0 1 0 0 1 1 1" + PURSES);
        for (int i = 1; i <= 9; i++) {
            y.passes(1);
            y.in(0, 0, 0, 1, 0);
        }
        BENCH.due("of pool 0", y.mean(0, 9), -2);
        BENCH.due("of pool 1", y.mean(1, 9), 20);
        // TIME 0 has one from the first.
        TickPools z = Bench.made(Bench.PLAIN);
        z.in(0, 0, 0, 1, 3);
        z.passes(2);
        BENCH.due("a swap at TIME 0", z.mean(0, 2), 3);
        for (int i = 1; i <= 7; i++) {
            z.in(0, 0, 0, 1, 0);
            z.passes(1);
        }
        BENCH.holds("seven more beside it", z.mean(0, 9) >= 0);
    }

    private static String means(TickPools x) {
        StringBuilder all = new StringBuilder();
        for (int n = 1; n <= x.count(4) + 1; n++) {
            all.append(x.mean(0, n)).append(' ');
        }
        return all.toString();
    }

    private static void eightMarksComeBackBehindAFail() {
        TickPools x = marked(11, 2);
        x.passes(2);
        String before = means(x);
        BENCH.due("fails", Bench.bundle(x, 0, "in 0 0 1;in 0 1 1;in 0 0 0"), Bench.fault(18, 5));
        BENCH.holds("means as before", before.equals(means(x)));
        BENCH.due("out that can't be", x.out(0, 0, 0, 1), -2);
        BENCH.holds("means as before", before.equals(means(x)));
        BENCH.due("done", Bench.bundle(x, 0, "in 0 0 1;in 0 1 1"), 2);
        BENCH.holds("the first MARK is gone then", !before.equals(means(x)));
    }

    private static void marksOfANewMarket() {
        TickPools x = marked(11, 2);
        x.passes(2);
        BENCH.due("another", Bench.market(x, Bench.PLAIN), 1);
        BENCH.due("not known", x.mean(0, 1), -2);
        x.passes(5);
        for (int n = 1; n <= 5; n++) {
            BENCH.due("mean of " + n, x.mean(0, n), 20);
        }
        BENCH.due("not known", x.mean(0, 6), -2);
        x.in(0, 0, 0, 1, 7);
        x.passes(5);
        BENCH.due("20 and 7", x.mean(0, 10), 13);
        // Twice, as a text is read before it is known to be good.
        BENCH.holds("refused", Bench.market(x, Bench.PLAIN + ";") < -2);
        BENCH.due("20 and 7", x.mean(0, 10), 13);
    }

    // Promises 19 and 20.

    private static void quoteInAtItsBounds() {
        TickPools x = Bench.plain();
        for (int n : Bench.odd(-1, 1)) {
            BENCH.due("pool " + n, x.quoteIn(n, 0, 5, 0, 0), -1);
        }
        for (int n : Bench.odd(-1, 2)) {
            BENCH.due("side " + n, x.quoteIn(0, n, 5, 0, 0), -1);
        }
        for (int n : Bench.odd(0, 10000000)) {
            BENCH.due("amount " + n, x.quoteIn(0, 0, n, 0, 0), -1);
        }
        for (int n : Bench.odd(-1, 41)) {
            BENCH.due("end " + n, x.quoteIn(0, 0, 5, n, 0), -1);
            BENCH.due("end " + n, x.quoteIn(0, 1, 5, n, 0), -1);
        }
        for (int n : Bench.odd(-1, 5)) {
            BENCH.due("what " + n, x.quoteIn(0, 0, 5, 0, n), -1);
        }
        BENCH.quoteInIs(x, 0, 1, 0, 0, 0, 1, 20, 0);
        BENCH.quoteInIs(x, 0, 9999999, 0, 465, 9999999 - 494, 5, 0, 1);
        BENCH.quoteInIs(x, 1, 9999999, 40, 465, 9999999 - 493, 5, 39, 1);
    }

    private static void quoteOutAtItsBounds() {
        TickPools x = Bench.plain();
        for (int n : Bench.odd(-1, 1)) {
            BENCH.due("pool " + n, x.quoteOut(n, 0, 5, 0), -1);
        }
        for (int n : Bench.odd(-1, 2)) {
            BENCH.due("side " + n, x.quoteOut(0, n, 5, 0), -1);
        }
        for (int n : Bench.odd(0, 10000000)) {
            BENCH.due("amount " + n, x.quoteOut(0, 0, n, 0), -1);
        }
        for (int n : Bench.odd(-1, 4)) {
            BENCH.due("what " + n, x.quoteOut(0, 0, 5, n), -1);
            BENCH.due("what " + n + " of what can't be", x.quoteOut(0, 0, 9999999, n), -1);
        }
        BENCH.quoteOutIs(x, 0, 9999999, -2, -2, -2, -2);
        BENCH.quoteOutIs(x, 1, 9999999, -2, -2, -2, -2);
        BENCH.quoteOutIs(x, 1, 1, 3, 1, 20, 0);
    }

    private static void quotesAskNoPurse() {
        TickPools x = Bench.made("market 2 1;pool 0 1 10 20 1 1 1;purse 0 0 466;purse 0 1 466");
        x.add(0, 0, 19, 21, 0, 10000);
        BENCH.due("empty", x.purse(0, 0) + x.purse(0, 1), 0);
        BENCH.quoteInIs(x, 0, 9999, 0, 465, 9999 - 494, 5, 0, 1);
        BENCH.quoteOutIs(x, 0, 465, 494, 5, 18, 1);
        BENCH.due("round", x.round(0, 0, 100), 97);
        BENCH.due("least", x.least(0, 0, 18), 494);
        BENCH.due("route", x.route(0, 1, 100, 0), 98);
        BENCH.holds("parts", x.parts(0, 1, 100, 0) > 0);
        BENCH.due("by hand the purse is asked", x.in(0, 0, 0, 1, 0), -1);
        BENCH.due("by hand the purse is asked", x.out(0, 0, 0, 1), -3);
    }
}
