import java.util.Arrays;

/** Promises 21 to 25, edge by edge: there and back, the least amount, rows of pools, parts and rings. */
public final class AskEdgesTest {
    private static final Bench BENCH = new Bench("AskEdgesTest");
    private static final String THREE = ";purse 0 0 999999;purse 0 1 999999;purse 0 2 999999";

    public static void main(String[] args) {
        roundAtItsBounds();
        roundOfNothing();
        roundOfOne();
        roundBothWays();
        roundWithADropOnTheWay();
        leastAtItsBounds();
        leastOfOne();
        leastIsOneMoreThanTooLittle();
        leastUpToTheMostUpwards();
        leastUpToTheMostDownwards();
        leastOfAnEmptyPool();
        routeAtItsBounds();
        routesOfOneToThree();
        routeOfFourIsNone();
        noThingTwice();
        eachGivesAnything();
        shortestOfLikeWorth();
        firstOfLikeWorth();
        longestIfItGivesMost();
        leftOnTheWay();
        partsAtTheirBounds();
        tenParts();
        partsOfLessThanTen();
        partsOfTheMost();
        partsByRowsOfSeveral();
        partsOfOneWithoutARoute();
        partsThatDropStakes();
        otherRowsAreCounted();
        ringAtItsBounds();
        ringOfNoGain();
        ringOfAGainOfOne();
        ringOfTheLeastAmount();
        ringOfTheShortest();
        ringOfTheFirst();
        ringOfTheMostAmount();
        ringOfOnePoolIsNone();
        askingChangesNothing();
        BENCH.finish();
    }

    private static TickPools staked(String text, int liquidity) {
        TickPools x = Bench.made(text);
        for (int pool = 0; pool < x.count(2); pool++) {
            BENCH.holds("staked", x.add(0, pool, 0, 40, 0, liquidity) >= 0);
        }
        return x;
    }

    private static TickPools plain() {
        TickPools x = Bench.made("market 3 1;pool 0 1 10 20 1 1 1" + THREE);
        x.add(0, 0, 19, 21, 0, 10000);
        return x;
    }

    /** What comes out by a row that is told pool by pool, each asked for alone. */
    private static int byRow(TickPools x, int from, int amount, int... row) {
        int thing = from;
        int much = amount;
        for (int pool : row) {
            int side = x.pool(pool, 0) == thing ? 0 : 1;
            much = much < 1 ? 0 : x.quoteIn(pool, side, much, side == 0 ? 0 : 40, 0);
            thing = x.pool(pool, 1 - side);
        }
        return much;
    }

    // Promise 21.

    private static void roundAtItsBounds() {
        TickPools x = plain();
        for (int n : Bench.odd(-1, 1)) {
            BENCH.due("pool " + n, x.round(n, 0, 5), -1);
        }
        for (int n : Bench.odd(-1, 2)) {
            BENCH.due("side " + n, x.round(0, n, 5), -1);
        }
        for (int n : Bench.odd(0, 10000000)) {
            BENCH.due("amount " + n, x.round(0, 0, n), -1);
        }
        // 465 come out at most, and go back up from tick 0: n is 460, 10^9 * 4600 / (95346 * 99946) = 482.7.
        BENCH.due("the most", x.round(0, 0, 9999999), 482);
        BENCH.due("what just crosses", x.round(0, 0, 494), 482);
    }

    private static void roundOfNothing() {
        TickPools x = plain();
        BENCH.due("all of it fee", x.round(0, 0, 1), 0);
        BENCH.due("2 give nothing", x.quoteIn(0, 0, 2, 0, 0), 0);
        BENCH.due("so nothing comes back", x.round(0, 0, 2), 0);
        TickPools empty = Bench.made("market 2 1;pool 0 1 0 0 1 1 1");
        BENCH.due("nothing staked", empty.round(0, 0, 9999999), 0);
        BENCH.due("nothing staked", empty.round(0, 1, 1), 0);
    }

    private static void roundOfOne() {
        // 9 of the first thing, at a price of a quarter: the root falls from 50000 to 49998, and 1.99 come out.
        TickPools x = staked("market 2 1;pool 0 1 0 0 1 1 4;purse 0 0 999999;purse 0 1 999999", 99999);
        BENCH.due("one comes out", x.quoteIn(0, 0, 9, 0, 0), 1);
        TickPools y = staked("market 2 1;pool 0 1 0 0 1 1 4;purse 0 0 999999;purse 0 1 999999", 99999);
        y.in(0, 0, 0, 9, 0);
        int back = y.quoteIn(0, 1, 1, 40, 0);
        BENCH.holds("and is not nothing", back > 1);
        BENCH.due("round", x.round(0, 0, 9), back);
    }

    private static void roundBothWays() {
        for (int side = 0; side < 2; side++) {
            for (int amount = 1; amount <= 1000000; amount *= 10) {
                TickPools x = plain();
                TickPools y = plain();
                int there = amount > 999000 ? -1 : y.in(0, 0, side, amount, side == 0 ? 0 : 40);
                int back = there < 1 ? 0 : y.in(0, 0, 1 - side, there, side == 0 ? 40 : 0);
                BENCH.due("round of " + amount, x.round(0, side, amount), there < 0 ? x.round(0, side, 999000) : back);
            }
        }
        // 98 of 100 come out; n of 98 is 97, the root falls from 100990 to 100011, and 97.9 come back.
        BENCH.due("up and down", plain().round(0, 1, 100), 97);
    }

    private static void roundWithADropOnTheWay() {
        for (int side = 0; side < 2; side++) {
            TickPools x = Bench.made("market 2 1;pool 0 1 10 0 1 1 1;purse 0 0 99999;purse 0 1 99999");
            x.add(0, 0, 19, 21, 2 - side, 10000);
            BENCH.due("what was dropped gives nothing", x.round(0, side, 600), 0);
            BENCH.holds("short of it there is some", x.round(0, side, 400) > 390);
            BENCH.due("it is there", x.count(3), 1);
            x.add(0, 0, 19, 21, 1 + side, 10000);
            BENCH.holds("that of the other way gives some", x.round(0, side, 1200) > 0);
        }
    }

    // Promise 22.

    private static void leastAtItsBounds() {
        TickPools x = plain();
        for (int n : Bench.odd(-1, 1)) {
            BENCH.due("pool " + n, x.least(n, 0, 20), -1);
        }
        for (int n : Bench.odd(-1, 2)) {
            BENCH.due("side " + n, x.least(0, n, 20), -1);
        }
        for (int n : Bench.odd(-1, 40)) {
            BENCH.due("zone " + n, x.least(0, 0, n), -1);
            BENCH.due("zone " + n, x.least(0, 1, n), -1);
        }
        BENCH.due("zone 0", x.least(0, 0, 0), 495);
        BENCH.due("zone 39", x.least(0, 1, 39), 494);
    }

    private static void leastOfOne() {
        TickPools x = plain();
        BENCH.due("its own zone", x.least(0, 0, 20), 1);
        BENCH.due("its own zone", x.least(0, 1, 20), 1);
        BENCH.due("one it is below already", x.least(0, 0, 21), 1);
        BENCH.due("far above", x.least(0, 0, 39), 1);
        BENCH.due("one it is above already", x.least(0, 1, 19), 1);
        BENCH.due("far below", x.least(0, 1, 0), 1);
        // Without a fee 1 is enough to leave the tick downwards, with one 1 is all fee.
        BENCH.due("below, with a fee", x.least(0, 0, 19), 2);
        TickPools y = Bench.made("market 2 1;pool 0 1 0 0 1 1 1;purse 0 0 9999;purse 0 1 9999");
        y.add(0, 0, 19, 21, 0, 10000);
        BENCH.due("below, without one", y.least(0, 0, 19), 1);
    }

    private static void leastIsOneMoreThanTooLittle() {
        TickPools x = Bench.made("market 2 1;pool 0 1 37 20 1 1 1;purse 0 0 9999999;purse 0 1 9999999");
        x.add(0, 0, 15, 25, 0, 99999);
        x.add(0, 0, 12, 18, 2, 55555);
        x.add(0, 0, 22, 31, 1, 77777);
        for (int zone = 0; zone < 40; zone++) {
            int side = zone < 20 ? 0 : 1;
            int least = x.least(0, side, zone);
            BENCH.holds("zone " + zone + " is come to", least >= 1);
            int there = x.quoteIn(0, side, least, side == 0 ? 0 : 40, 3);
            BENCH.holds("by that", side == 0 ? there <= zone : there >= zone);
            if (least > 1) {
                there = x.quoteIn(0, side, least - 1, side == 0 ? 0 : 40, 3);
                BENCH.holds("by less it is not", side == 0 ? there > zone : there < zone);
            }
        }
    }

    /** A pool at one of the outermost ticks, with this much liquidity all along. */
    private static TickPools deep(String at, int liquidity) {
        TickPools x = Bench.made("market 2 4;pool 0 1 0 0 1 " + at + ";purse 0 0 9999999;purse 1 0 9999999"
            + ";purse 2 0 9999999;purse 0 1 9999999;purse 1 1 9999999;purse 2 1 9999999");
        int left = liquidity;
        for (int stake = 0; stake < 9 && left > 0; stake++) {
            for (int i = 0; i < 10 && left > 0; i++) {
                int much = Math.min(left, 99999);
                BENCH.holds("staked", x.add(stake / 3, 0, 0, 40, stake % 3, much) >= 0);
                left -= much;
            }
        }
        BENCH.due("liquidity", x.pool(0, 7), liquidity);
        return x;
    }

    private static void leastUpToTheMostUpwards() {
        // Zone 38 begins at 235794: 197240 * 5069965 / 100000 = 9999998.97 are wanted for that.
        TickPools x = deep("1 9999", 5069965);
        BENCH.due("9999999", x.least(0, 1, 38), 9999999);
        BENCH.due("too dear", x.least(0, 1, 39), -2);
        // Zone 39 begins at 247303: 208749 * 4790442 / 100000 = 9999999.8; one less of it wants 9999997.7.
        x = deep("1 9999", 4790442);
        BENCH.due("10000000", x.least(0, 1, 39), -2);
        x.take(0, 1);
        BENCH.due("9999998", x.least(0, 1, 39), 9999998);
    }

    private static void leastUpToTheMostDownwards() {
        // To come below 51315, the root of tick 6.
        TickPools x = deep("9999 1", 6396960);
        BENCH.due("9999999", x.least(0, 0, 5), 9999999);
        BENCH.due("too dear", x.least(0, 0, 4), -2);
        x.add(2, 0, 0, 40, 2, 1);
        BENCH.due("10000000", x.least(0, 0, 5), -2);
    }

    private static void leastOfAnEmptyPool() {
        TickPools x = Bench.made("market 2 1;pool 0 1 99 0 1 1 1");
        for (int zone = 0; zone < 40; zone++) {
            BENCH.due("by 1 everywhere down", x.least(0, 0, zone), 1);
            BENCH.due("by 1 everywhere up", x.least(0, 1, zone), 1);
        }
    }

    // Promise 23.

    private static void routeIs(TickPools x, int from, int to, int amount, int... due) {
        for (int what = 0; what < 5; what++) {
            BENCH.due("route " + from + " " + to + " " + amount + ", what " + what,
                x.route(from, to, amount, what), what < due.length ? due[what] : -2);
        }
    }

    private static void routeAtItsBounds() {
        TickPools x = plain();
        for (int n : Bench.odd(-1, 3)) {
            BENCH.due("from " + n, x.route(n, 1, 5, 0), -1);
            BENCH.due("to " + n, x.route(0, n, 5, 0), -1);
        }
        for (int thing = 0; thing < 3; thing++) {
            BENCH.due("like things", x.route(thing, thing, 5, 0), -1);
        }
        for (int n : Bench.odd(0, 10000000)) {
            BENCH.due("amount " + n, x.route(0, 1, n, 0), -1);
        }
        for (int n : Bench.odd(-1, 5)) {
            BENCH.due("what " + n, x.route(0, 1, 100, n), -1);
            BENCH.due("what " + n + ", where there is none", x.route(0, 2, 100, n), -1);
        }
        routeIs(x, 0, 1, 9999999, 465, 1, 0);
        routeIs(x, 0, 2, 100);
        routeIs(x, 2, 0, 100);
        routeIs(x, 0, 1, 1);
    }

    private static void routesOfOneToThree() {
        TickPools x = staked("market 4 1;pool 0 1 0 0 1 1 1;pool 2 1 0 0 1 1 1;pool 2 3 0 0 1 1 1;purse 0 3 999999" + THREE, 99999);
        routeIs(x, 0, 1, 1000, byRow(x, 0, 1000, 0), 1, 0);
        routeIs(x, 0, 2, 1000, byRow(x, 0, 1000, 0, 1), 2, 0, 1);
        routeIs(x, 0, 3, 1000, byRow(x, 0, 1000, 0, 1, 2), 3, 0, 1, 2);
        routeIs(x, 3, 0, 1000, byRow(x, 3, 1000, 2, 1, 0), 3, 2, 1, 0);
        BENCH.holds("which is some", x.route(0, 3, 1000, 0) > 900);
    }

    private static void routeOfFourIsNone() {
        TickPools x = staked("market 5 1;pool 0 1 0 0 1 1 1;pool 1 2 0 0 1 1 1;pool 2 3 0 0 1 1 1;pool 3 4 0 0 1 1 1"
            + ";purse 0 3 999999;purse 0 4 999999" + THREE, 9999);
        routeIs(x, 0, 4, 500);
        routeIs(x, 4, 0, 500);
        BENCH.due("three will do", x.route(0, 3, 500, 1), 3);
        BENCH.due("three will do", x.route(1, 4, 500, 1), 3);
    }

    private static void noThingTwice() {
        // 0 to 1 and back by pools 0 and 1 would give four times as much for the way to 2.
        TickPools x = staked("market 3 1;pool 0 1 0 0 1 4 1;pool 0 1 0 0 1 1 1;pool 0 2 0 0 1 1 1" + THREE, 99999);
        BENCH.holds("that way there is more", byRow(x, 0, 1000, 0, 1, 2) > 2 * byRow(x, 0, 1000, 2));
        routeIs(x, 0, 2, 1000, byRow(x, 0, 1000, 2), 1, 2);
        // From 2 to 0 first, then to 1 and back.
        BENCH.holds("that way there is more", byRow(x, 2, 1000, 2, 0, 1) > 2 * byRow(x, 2, 1000, 2));
        routeIs(x, 2, 0, 1000, byRow(x, 2, 1000, 2), 1, 2);
        // In the midst: 2 to 0, to 1, and on; none but by 0 twice.
        x = staked("market 4 1;pool 0 1 0 0 1 1 1;pool 1 0 0 0 1 1 1;pool 2 3 0 0 1 1 1;purse 0 3 999999" + THREE, 99999);
        routeIs(x, 0, 2, 1000);
        routeIs(x, 0, 3, 1000);
    }

    private static void eachGivesAnything() {
        TickPools x = staked("market 3 1;pool 0 1 0 0 1 1 1;pool 1 2 0 0 1 5 1;pool 2 1 99 0 1 1 5" + THREE, 99999);
        // Of 2 nothing comes out of pool 0, of 3 one, and of that some.
        routeIs(x, 0, 2, 2);
        BENCH.due("3 give one", x.quoteIn(0, 0, 3, 0, 0), 1);
        BENCH.holds("and that gives some", x.route(0, 2, 3, 0) > 1);
        // From 2 to 1: one of it gives nothing in pool 1, nor in pool 2.
        routeIs(x, 2, 1, 1);
        routeIs(x, 2, 0, 1);
        // Enough for the first pool, but what comes out is not enough for the second.
        int some = 1;
        while (some < 50 && x.route(2, 1, some, 0) < 1) {
            some++;
        }
        BENCH.due(some + " give one", x.route(2, 1, some, 0), 1);
        routeIs(x, 2, 0, some);
        TickPools y = Bench.made("market 3 1;pool 0 1 0 0 1 1 1;pool 1 2 0 0 1 1 1" + THREE);
        y.add(0, 0, 0, 40, 0, 99999);
        routeIs(y, 0, 1, 50, 48, 1, 0);
        routeIs(y, 0, 2, 50);
    }

    private static void shortestOfLikeWorth() {
        // 12 give 10, then 8; straight on, of 12 with a fee of 99 n is 10, and they give 8 as well.
        String two = "pool 0 2 0 0 1 1 1;pool 2 1 0 0 1 1 1";
        TickPools x = staked("market 3 1;" + two + ";pool 0 1 99 0 1 1 1" + THREE, 99999);
        BENCH.due("by two", byRow(x, 0, 12, 0, 1), byRow(x, 0, 12, 2));
        routeIs(x, 0, 1, 12, 8, 1, 2);
        x = staked("market 3 1;pool 0 1 99 0 1 1 1;" + two + THREE, 99999);
        routeIs(x, 0, 1, 12, 8, 1, 0);
    }

    private static void firstOfLikeWorth() {
        String like = ";pool 0 1 0 0 1 1 1";
        TickPools x = staked("market 2 1;pool 0 1 99 0 1 1 1" + like + ";pool 1 0 99 0 1 1 1" + like + like
            + ";purse 0 0 999999;purse 0 1 999999", 99999);
        routeIs(x, 0, 1, 1000, byRow(x, 0, 1000, 1), 1, 1);
        x.take(1, 99999);
        routeIs(x, 0, 1, 1000, byRow(x, 0, 1000, 3), 1, 3);
        // Of rows of two: POOL by POOL the least.
        x = staked("market 3 1;pool 1 2 0 0 1 1 1;pool 0 1 0 0 1 1 1;pool 0 1 0 0 1 1 1;pool 1 2 0 0 1 1 1" + THREE, 99999);
        routeIs(x, 0, 2, 1000, byRow(x, 0, 1000, 1, 0), 2, 1, 0);
        routeIs(x, 2, 0, 1000, byRow(x, 2, 1000, 0, 1), 2, 0, 1);
    }

    private static void longestIfItGivesMost() {
        TickPools x = staked("market 4 1;pool 0 3 0 0 1 1 1;pool 0 1 0 0 1 1 1;pool 1 2 0 0 1 1 1;pool 2 3 0 0 1 5 4"
            + ";purse 0 3 999999" + THREE, 99999);
        int by = byRow(x, 0, 1000, 1, 2, 3);
        BENCH.holds("by three there is more", by > byRow(x, 0, 1000, 0));
        routeIs(x, 0, 3, 1000, by, 3, 1, 2, 3);
    }

    private static void leftOnTheWay() {
        // Pool 0 gives but what it has; what is LEFT of 100000 is not counted, as long as more comes out by it.
        TickPools x = Bench.made("market 2 1;pool 0 1 0 0 1 1 1;pool 0 1 0 0 1 1 1;purse 0 0 999999;purse 0 1 999999");
        x.add(0, 0, 19, 21, 0, 10000);
        x.add(0, 1, 19, 21, 0, 9000);
        BENCH.holds("most of it is left", x.quoteIn(0, 0, 100000, 0, 1) > 99000);
        routeIs(x, 0, 1, 100000, 465, 1, 0);
    }

    // Promise 24.

    private static void partsAre(String text, int liquidity, int from, int to, int amount, int... parts) {
        TickPools x = staked(text, liquidity);
        TickPools y = staked(text, liquidity);
        int all = 0;
        int others = 0;
        String firstRow = null;
        for (int part : parts) {
            int length = y.route(from, to, part, 1);
            if (length < 1) {
                BENCH.due("parts of " + amount, x.parts(from, to, amount, 0), -2);
                BENCH.due("parts of " + amount, x.parts(from, to, amount, 1), -2);
                return;
            }
            int[] row = {y.route(from, to, part, 2), y.route(from, to, part, 3), y.route(from, to, part, 4)};
            firstRow = firstRow == null ? Arrays.toString(row) : firstRow;
            others += firstRow.equals(Arrays.toString(row)) ? 0 : 1;
            int thing = from;
            int much = part;
            for (int i = 0; i < length; i++) {
                int side = y.pool(row[i], 0) == thing ? 0 : 1;
                much = y.in(0, row[i], side, much, side == 0 ? 0 : 40);
                BENCH.holds("by hand it can be, too", much > 0);
                thing = y.pool(row[i], 1 - side);
            }
            all += much;
        }
        BENCH.due("parts of " + amount, x.parts(from, to, amount, 0), all);
        BENCH.due("other rows of " + amount, x.parts(from, to, amount, 1), others);
    }

    private static void partsAtTheirBounds() {
        TickPools x = plain();
        for (int n : Bench.odd(-1, 3)) {
            BENCH.due("from " + n, x.parts(n, 1, 100, 0), -1);
            BENCH.due("to " + n, x.parts(0, n, 100, 0), -1);
        }
        for (int thing = 0; thing < 3; thing++) {
            BENCH.due("like things", x.parts(thing, thing, 100, 0), -1);
        }
        for (int n : Bench.odd(0, 10000000)) {
            BENCH.due("amount " + n, x.parts(0, 1, n, 0), -1);
        }
        for (int n : Bench.odd(-1, 2)) {
            BENCH.due("what " + n, x.parts(0, 1, 100, n), -1);
            BENCH.due("what " + n + ", where there are none", x.parts(0, 2, 100, n), -1);
        }
        BENCH.due("none", x.parts(0, 2, 100, 0), -2);
        BENCH.due("none", x.parts(0, 2, 100, 1), -2);
    }

    private static final String STEEP = "market 2 1;pool 0 1 0 0 1 9999 1;pool 0 1 0 0 1 9999 1;purse 0 0 999999;purse 0 1 999999";

    private static void tenParts() {
        partsAre(STEEP, 9999, 0, 1, 10, 1, 1, 1, 1, 1, 1, 1, 1, 1, 1);
        partsAre(STEEP, 9999, 0, 1, 11, 1, 1, 1, 1, 1, 1, 1, 1, 1, 2);
        partsAre(STEEP, 9999, 0, 1, 19, 1, 2, 2, 2, 2, 2, 2, 2, 2, 2);
        partsAre(STEEP, 9999, 0, 1, 15, 1, 2, 1, 2, 1, 2, 1, 2, 1, 2);
        partsAre(STEEP, 9999, 0, 1, 1000, 100, 100, 100, 100, 100, 100, 100, 100, 100, 100);
        // Fees by part: 1 of each of ten.
        String one = "market 2 1;pool 0 1 99 0 1 9999 1;purse 0 0 999999;purse 0 1 999999";
        partsAre(one, 9999, 0, 1, 99, 9, 10, 10, 10, 10, 10, 10, 10, 10, 10);
    }

    private static void partsOfLessThanTen() {
        partsAre(STEEP, 9999, 0, 1, 1, 1);
        partsAre(STEEP, 9999, 0, 1, 2, 1, 1);
        partsAre(STEEP, 9999, 0, 1, 5, 1, 1, 1, 1, 1);
        partsAre(STEEP, 9999, 0, 1, 9, 1, 1, 1, 1, 1, 1, 1, 1, 1);
        TickPools x = staked(STEEP, 9999);
        BENCH.due("of 1 there is one part alone", x.parts(0, 1, 1, 0), x.route(0, 1, 1, 0));
        BENCH.due("and no other row", x.parts(0, 1, 1, 1), 0);
        BENCH.holds("which gives some", x.parts(0, 1, 1, 0) > 0);
    }

    private static void partsOfTheMost() {
        TickPools x = Bench.made("market 2 3;pool 0 1 0 0 1 9999 1;purse 0 1 9999999;purse 1 1 9999999;purse 2 0 9999999");
        TickPools y = Bench.made("market 2 3;pool 0 1 0 0 1 9999 1;purse 0 1 9999999;purse 1 1 9999999;purse 2 0 9999999");
        for (int i = 0; i < 90; i++) {
            x.add(i % 2, 0, 0, 40, i / 20 % 3, 99999);
            y.add(i % 2, 0, 0, 40, i / 20 % 3, 99999);
        }
        int all = 0;
        for (int k = 1; k <= 10; k++) {
            all += y.in(2, 0, 0, k == 1 ? 999999 : 1000000, 0);
        }
        BENCH.holds("all of it goes in", y.purse(2, 0) == 0);
        BENCH.due("parts of 9999999", x.parts(0, 1, 9999999, 0), all);
        BENCH.due("by one row", x.parts(0, 1, 9999999, 1), 0);
    }

    private static void partsByRowsOfSeveral() {
        String text = "market 4 1;pool 0 1 3 0 1 1 1;pool 2 1 3 0 1 1 1;pool 2 3 3 0 1 1 1;pool 0 3 30 0 1 1 1;pool 0 2 5 0 1 1 1"
            + ";purse 0 3 999999" + THREE;
        int[] hundreds = {700, 700, 700, 700, 700, 700, 700, 700, 700, 700};
        for (int from = 0; from < 4; from++) {
            for (int to = 0; to < 4; to++) {
                if (from != to) {
                    partsAre(text, 50000, from, to, 7000, hundreds);
                }
            }
        }
        // By a row of three alone.
        text = "market 4 1;pool 0 1 3 0 1 1 1;pool 2 1 3 0 1 1 1;pool 2 3 3 0 1 1 1;purse 0 3 999999" + THREE;
        partsAre(text, 50000, 0, 3, 7000, hundreds);
        partsAre(text, 50000, 3, 0, 7000, hundreds);
    }

    private static void partsOfOneWithoutARoute() {
        TickPools x = plain();
        // Parts of 49 and 50: 494 would take the pool across its last tick by the tenth, or ahead of it.
        BENCH.holds("470", x.parts(0, 1, 470, 0) > 0);
        BENCH.due("the last part finds none", x.parts(0, 1, 600, 0), -2);
        BENCH.due("the last part finds none", x.parts(0, 1, 600, 1), -2);
        BENCH.holds("though all at once has a ROUTE", x.route(0, 1, 600, 0) > 0);
        // The first part is too small to give anything.
        BENCH.due("ones are all fee", x.parts(0, 1, 10, 0), -2);
        BENCH.due("1 and 2 by turns", x.parts(0, 1, 15, 0), -2);
        BENCH.holds("threes give some", x.parts(0, 1, 30, 0) > 0);
        BENCH.holds("all at once 10 give some", x.route(0, 1, 10, 0) > 0);
    }

    private static void partsThatDropStakes() {
        String text = "market 2 1;pool 0 1 0 0 1 1 1;pool 0 1 99 0 1 1 1;purse 0 0 999999;purse 0 1 999999";
        TickPools x = Bench.made(text);
        TickPools y = Bench.made(text);
        for (TickPools z : new TickPools[] {x, y}) {
            z.add(0, 0, 19, 21, 2, 10000);
            z.add(0, 0, 17, 21, 0, 1000);
            z.add(0, 1, 10, 30, 0, 99999);
        }
        int all = 0;
        for (int k = 1; k <= 10; k++) {
            int pool = y.route(0, 1, 200, 2);
            all += y.in(0, pool, 0, 200, 0);
        }
        BENCH.due("dropped on the way", y.count(3), 2);
        BENCH.due("parts", x.parts(0, 1, 2000, 0), all);
        BENCH.due("it is there", x.count(3), 3);
    }

    private static void otherRowsAreCounted() {
        String like = "market 2 1;pool 0 1 0 0 1 1 1;pool 0 1 0 0 1 1 1;purse 0 0 999999;purse 0 1 999999";
        TickPools x = staked(like, 50000);
        BENCH.due("by turns", x.parts(0, 1, 10000, 1), 5);
        x = staked("market 2 1;pool 0 1 0 0 1 1 1;purse 0 0 999999;purse 0 1 999999", 50000);
        BENCH.due("always the same", x.parts(0, 1, 10000, 1), 0);
        // The second pool is worse at first: but one part, the last, goes by it, or many.
        String unlike = "market 3 1;pool 0 1 0 0 1 1000 1000;pool 0 2 0 0 1 1000 1000;pool 2 1 0 0 1 970 1000" + THREE;
        partsAre(unlike, 50000, 0, 1, 10000, 1000, 1000, 1000, 1000, 1000, 1000, 1000, 1000, 1000, 1000);
        int others = staked(unlike, 50000).parts(0, 1, 10000, 1);
        BENCH.holds("some, not all: " + others, others > 0 && others < 9);
        // The first row of two, the others straight: rows of unlike length are other rows.
        unlike = "market 3 1;pool 0 1 0 0 1 930 1000;pool 0 2 0 0 1 1000 1000;pool 2 1 0 0 1 1000 1000" + THREE;
        partsAre(unlike, 50000, 0, 1, 10000, 1000, 1000, 1000, 1000, 1000, 1000, 1000, 1000, 1000, 1000);
        BENCH.due("the first goes by two", staked(unlike, 50000).route(0, 1, 1000, 1), 2);
        others = staked(unlike, 50000).parts(0, 1, 10000, 1);
        BENCH.holds("some, not all: " + others, others > 0 && others < 9);
    }

    // Promise 25.

    private static void ringIs(TickPools x, int thing, int... due) {
        for (int what = 0; what < 6; what++) {
            BENCH.due("ring of " + thing + ", what " + what, x.ring(thing, what), what < due.length ? due[what] : -2);
        }
    }

    private static TickPools twoPools(int a, int b, int c, int d, int first, int second) {
        TickPools x = Bench.made("market 2 1;pool 0 1 0 0 1 " + a + " " + b + ";pool 0 1 0 0 1 " + c + " " + d
            + ";purse 0 0 9999999;purse 0 1 9999999");
        x.add(0, 0, 0, 40, 0, first);
        x.add(0, 1, 0, 40, 0, second);
        return x;
    }

    private static void ringAtItsBounds() {
        TickPools x = twoPools(5, 2, 2, 1, 391, 789);
        for (int n : Bench.odd(-1, 2)) {
            BENCH.due("thing " + n, x.ring(n, 0), -1);
        }
        for (int n : Bench.odd(-1, 6)) {
            BENCH.due("what " + n, x.ring(0, n), -1);
            BENCH.due("what " + n + ", where there is none", x.ring(1, n), -1);
        }
        ringIs(x, 1);
    }

    private static void ringOfNoGain() {
        // Like prices: what goes round is less, or just as much.
        ringIs(twoPools(1, 1, 1, 1, 99999, 99999), 0);
        ringIs(twoPools(1, 1, 1, 1, 99999, 99999), 1);
        // A gain of 0 is none.
        TickPools x = twoPools(9999, 1, 10, 11, 300, 300);
        boolean some = false;
        for (int amount = 1; amount <= 10000; amount *= 10) {
            some = some || byRow(x, 0, amount, 0, 1) > amount || byRow(x, 0, amount, 1, 0) > amount;
        }
        BENCH.holds("a gain there, none where pools are empty", some == x.ring(0, 0) > 0);
        ringIs(Bench.made("market 3 1;pool 0 1 0 0 1 9999 1;pool 0 1 0 0 1 1 1" + THREE), 0);
        BENCH.due("of a thing without pools", Bench.made("market 3 1;pool 0 1 0 0 1 1 1").ring(2, 0), -2);
    }

    private static void ringOfAGainOfOne() {
        TickPools x = twoPools(5, 2, 2, 1, 391, 789);
        BENCH.due("11 of 10", byRow(x, 0, 10, 0, 1), 11);
        BENCH.holds("less of 1, of 100", byRow(x, 0, 1, 0, 1) <= 1 && byRow(x, 0, 100, 0, 1) <= 100);
        ringIs(x, 0, 1, 10, 2, 0, 1);
        // And where 10 give but 10 back, there is none.
        for (int liquidity = 391; liquidity > 0; liquidity -= 10) {
            x = twoPools(5, 2, 2, 1, liquidity, 789);
            int best = 0;
            for (int amount = 1; amount <= 10000; amount *= 10) {
                best = Math.max(best, byRow(x, 0, amount, 0, 1) - amount);
            }
            BENCH.due("gain with " + liquidity, x.ring(0, 0), best > 0 ? best : -2);
        }
    }

    private static void ringOfTheLeastAmount() {
        TickPools x = twoPools(6, 3, 20, 7, 718, 1777);
        BENCH.due("13 of 10", byRow(x, 0, 10, 1, 0), 13);
        BENCH.due("103 of 100", byRow(x, 0, 100, 1, 0), 103);
        ringIs(x, 0, 3, 10, 2, 1, 0);
        x = twoPools(17, 4, 12, 11, 1299, 6678);
        BENCH.due("318 of 100", byRow(x, 0, 100, 0, 1), 318);
        BENCH.due("1218 of 1000", byRow(x, 0, 1000, 0, 1), 1218);
        ringIs(x, 0, 218, 100, 2, 0, 1);
    }

    private static TickPools fivePools(int liquidity, int... ab) {
        int[] things = {0, 1, 1, 2, 2, 0, 0, 1, 1, 0};
        StringBuilder text = new StringBuilder("market 3 1");
        for (int i = 0; i < 5; i++) {
            text.append(";pool " + things[2 * i] + " " + things[2 * i + 1] + " 0 0 1 " + ab[2 * i] + " " + ab[2 * i + 1]);
        }
        return staked(text + THREE, liquidity);
    }

    private static void ringOfTheShortest() {
        TickPools x = fivePools(3000, 1007, 935, 1120, 913, 1080, 1061, 1003, 1195, 1108, 1095);
        BENCH.due("by two", byRow(x, 0, 100, 0, 3), 119);
        BENCH.due("as much by three, that come first", byRow(x, 0, 100, 0, 1, 2), 119);
        ringIs(x, 0, 19, 100, 2, 0, 3);
        x = fivePools(5000, 1117, 1163, 954, 1086, 1073, 944, 1134, 1156, 1013, 901);
        BENCH.due("by two", byRow(x, 0, 100, 3, 4), 105);
        BENCH.due("as much by three, that come first", byRow(x, 0, 100, 2, 1, 4), 105);
        ringIs(x, 0, 5, 100, 2, 3, 4);
    }

    private static void ringOfTheFirst() {
        TickPools x = staked("market 2 1;pool 0 1 0 0 1 1 1;pool 0 1 0 0 1 1 1;pool 0 1 0 0 1 4 1;pool 0 1 0 0 1 4 1"
            + ";purse 0 0 999999;purse 0 1 999999", 50000);
        BENCH.due("2 and 0", x.ring(0, 3), 2);
        BENCH.due("2 and 0", x.ring(0, 4), 0);
        BENCH.due("from thing 1, 0 and 2", x.ring(1, 3), 0);
        BENCH.due("from thing 1, 0 and 2", x.ring(1, 4), 2);
        int best = 0;
        for (int amount = 1; amount <= 10000; amount *= 10) {
            best = Math.max(best, byRow(x, 0, amount, 2, 0) - amount);
        }
        BENCH.due("gain", x.ring(0, 0), best);
        // Three by three.
        x = staked("market 3 1;pool 0 1 0 0 1 3 1;pool 0 1 0 0 1 3 1;pool 1 2 0 0 1 1 1;pool 2 0 0 0 1 1 1;pool 2 0 0 0 1 1 1"
            + THREE, 50000);
        BENCH.due("pool 0 of 0 and 1", x.ring(0, 3), 0);
        BENCH.due("three of them", x.ring(0, 2) == 3 ? x.ring(0, 5) : 3, 3);
    }

    private static void ringOfTheMostAmount() {
        TickPools x = twoPools(2, 1, 1, 1, 99999, 99999);
        int of10000 = byRow(x, 0, 10000, 0, 1) - 10000;
        BENCH.holds("more than of 1000", of10000 > byRow(x, 0, 1000, 0, 1) - 1000);
        ringIs(x, 0, of10000, 10000, 2, 0, 1);
        x = Bench.made("market 2 1;pool 0 1 0 0 1 2 1;pool 0 1 0 0 1 1 1;purse 0 0 9999999;purse 0 1 9999999");
        for (int i = 0; i < 10; i++) {
            x.add(0, 0, 0, 40, 0, 99999);
            x.add(0, 1, 0, 40, 0, 99999);
        }
        BENCH.holds("of 100000 there would be more", byRow(x, 0, 100000, 0, 1) - 100000 > byRow(x, 0, 10000, 0, 1) - 10000);
        ringIs(x, 0, byRow(x, 0, 10000, 0, 1) - 10000, 10000, 2, 0, 1);
    }

    private static void ringOfOnePoolIsNone() {
        ringIs(staked("market 2 1;pool 0 1 0 0 1 9999 1;purse 0 0 999999;purse 0 1 999999", 99999), 0);
        ringIs(staked("market 2 1;pool 0 1 0 0 1 9999 1;purse 0 0 999999;purse 0 1 999999", 99999), 1);
        // Four that would gain: 0 to 1, 2, 3 and back.
        TickPools x = staked("market 4 1;pool 0 1 0 0 1 2 1;pool 1 2 0 0 1 2 1;pool 2 3 0 0 1 2 1;pool 3 0 0 0 1 2 1"
            + ";purse 0 3 999999" + THREE, 50000);
        BENCH.holds("four would", byRow(x, 0, 100, 0, 1, 2, 3) > 100);
        ringIs(x, 0);
    }

    private static void askingChangesNothing() {
        TickPools x = plain();
        x.add(0, 0, 15, 19, 2, 777);
        x.add(0, 0, 21, 25, 1, 777);
        x.passes(3);
        String before = Bench.picture(x);
        for (int side = 0; side < 2; side++) {
            x.round(0, side, 5000);
            x.least(0, side, side * 39);
            x.quoteIn(0, side, 5000, side * 40, 0);
            x.quoteOut(0, side, 470, 0);
            x.route(side, 1 - side, 5000, 0);
            x.parts(side, 1 - side, 700, 0);
            x.ring(side, 0);
        }
        BENCH.holds("all is as it was", before.equals(Bench.picture(x)));
    }
}
