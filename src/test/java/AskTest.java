/** Promises 21 to 25: round, least, route, parts, ring. LawsTest checks them against swaps that are done. */
public final class AskTest {
    private static final Bench BENCH = new Bench("AskTest");

    public static void main(String[] args) {
        roundTrips();
        roundDropsStakes();
        leastAmounts();
        routes();
        routesOfEqualWorth();
        partsOfAmounts();
        partsThatAreNone();
        rings();
        ringsOfEqualWorth();
        wrongQuestions();
        BENCH.finish();
    }

    private static TickPools plain() {
        TickPools x = Bench.made("market 3 1;pool 0 1 10 20 1 1 1;purse 0 0 999999;purse 0 1 999999");
        x.add(0, 0, 19, 21, 0, 10000);
        return x;
    }

    private static void roundTrips() {
        TickPools x = plain();
        String before = Bench.picture(x);
        // 100 in gives 98, with the root at 99020; n of 98 is 97; the root 970 more; FIRST 98.0.
        BENCH.due("round", x.round(0, 0, 100), 97);
        BENCH.due("nothing comes out", x.round(0, 0, 1), 0);
        // All 465 there; up again from tick 0 the whole way: n of 465 is 460; 10^9 * 4600 / (95346 * 99946).
        BENCH.due("beyond its stakes", x.round(0, 0, 9999999), 482);
        BENCH.holds("nothing changed", before.equals(Bench.picture(x)));
        TickPools empty = Bench.made("market 2 1;pool 0 1 0 0 1 1 1");
        BENCH.due("an empty pool", empty.round(0, 1, 5), 0);
    }

    private static void roundDropsStakes() {
        TickPools x = Bench.made("market 2 1;pool 0 1 0 0 1 1 1;purse 0 0 999999;purse 0 1 999999");
        x.add(0, 0, 19, 21, 2, 10000);
        BENCH.due("what was dropped gives nothing back", x.round(0, 0, 600), 0);
        BENCH.due("it is there yet", x.count(3), 1);
        x.add(0, 0, 18, 21, 0, 10000);
        TickPools y = Bench.made("market 2 1;pool 0 1 0 0 1 1 1;purse 0 0 999999;purse 0 1 999999");
        y.add(0, 0, 19, 21, 2, 10000);
        y.add(0, 0, 18, 21, 0, 10000);
        int there = y.in(0, 0, 0, 1200, 0);
        BENCH.due("one is dropped on the way there", y.count(3), 1);
        BENCH.due("the other one alone gives back", x.round(0, 0, 1200), y.in(0, 0, 1, there, 40));
    }

    private static void leastAmounts() {
        TickPools x = plain();
        String before = Bench.picture(x);
        BENCH.due("where it is", x.least(0, 0, 20), 1);
        BENCH.due("above that", x.least(0, 0, 39), 1);
        BENCH.due("where it is", x.least(0, 1, 20), 1);
        BENCH.due("below that", x.least(0, 1, 0), 1);
        // 1 and 2 are all fee or move the root from 100000 down: n of 2 is 1, and that is enough for zone 19.
        BENCH.due("one down", x.least(0, 0, 19), 2);
        BENCH.due("across tick 19", x.least(0, 0, 18), 494);
        // By what is left when tick 19 has been crossed it goes down to tick 0.
        BENCH.due("on below", x.least(0, 0, 17), 495);
        BENCH.due("down to 0", x.least(0, 0, 0), 495);
        BENCH.due("across tick 21", x.least(0, 1, 21), 493);
        BENCH.due("on above", x.least(0, 1, 39), 494);
        BENCH.holds("nothing changed", before.equals(Bench.picture(x)));
        TickPools deep = Bench.made("market 2 1;pool 0 1 99 0 1 1 1;purse 0 0 9999999;purse 0 1 9999999");
        for (int i = 0; i < 10; i++) {
            for (int auto = 0; auto < 3; auto++) {
                deep.add(0, 0, 0, 40, auto, 99999);
            }
        }
        // More comes in by 9999999 than this wants, but not than the whole way wants.
        BENCH.holds("one tick", deep.least(0, 0, 18) > 100000);
        BENCH.holds("a step less does not do", deep.quoteIn(0, 0, deep.least(0, 0, 18) - 1, 0, 3) == 19);
        deep = Bench.made("market 2 4;pool 0 1 99 0 1 1 1;purse 0 0 9999999;purse 0 1 9999999"
            + ";purse 1 0 9999999;purse 1 1 9999999;purse 2 0 9999999;purse 2 1 9999999");
        for (int person = 0; person < 3; person++) {
            for (int auto = 0; auto < 3; auto++) {
                for (int i = 0; i < 10; i++) {
                    deep.add(person, 0, 0, 40, auto, 99999);
                }
            }
        }
        BENCH.due("by none", deep.least(0, 0, 0), -2);
        BENCH.due("by none", deep.least(0, 1, 39), -2);
    }

    private static void routeIs(TickPools x, int from, int to, int amount, int... due) {
        for (int what = 0; what < 5; what++) {
            BENCH.due("route " + from + " " + to + " " + amount + ", what " + what,
                x.route(from, to, amount, what), due[what]);
        }
    }

    private static void routes() {
        TickPools x = Bench.made("market 5 1;pool 0 1 0 0 1 1 1;pool 1 2 0 0 1 1 1;pool 3 2 0 0 1 1 1;pool 0 3 99 0 1 1 1"
            + ";purse 0 0 999999;purse 0 1 999999;purse 0 2 999999;purse 0 3 999999");
        for (int pool = 0; pool < 4; pool++) {
            x.add(0, pool, 10, 30, 0, 99999);
        }
        String before = Bench.picture(x);
        // 10^5 * 99999 / 100099 = 99900.1: the root is 99 less, and 98.999 come out; of 98 then 96.999.
        routeIs(x, 0, 1, 100, 98, 1, 0, -2, -2);
        routeIs(x, 0, 2, 100, 96, 2, 0, 1, -2);
        // Up, the root is 96 more, and 95.9 come out. Straight on by pool 3 but 90 of 100 are swapped.
        routeIs(x, 0, 3, 100, 95, 3, 0, 1, 2);
        routeIs(x, 3, 0, 100, 96, 3, 2, 1, 0);
        routeIs(x, 0, 4, 100, -2, -2, -2, -2, -2);
        TickPools y = Bench.made("market 3 1;pool 0 1 0 0 1 1 1;pool 1 2 0 0 1 9999 1"
            + ";purse 0 0 999999;purse 0 1 999999;purse 0 2 999999");
        y.add(0, 0, 0, 40, 0, 99999);
        y.add(0, 1, 0, 40, 0, 99999);
        BENCH.due("of 3 but one", y.quoteIn(0, 0, 3, 0, 0), 1);
        routeIs(y, 0, 2, 3, y.quoteIn(1, 0, 1, 0, 0), 2, 0, 1, -2);
        BENCH.holds("which gives some", y.quoteIn(1, 0, 1, 0, 0) > 1);
        // Of 1 nothing comes out at all.
        routeIs(x, 0, 3, 1, -2, -2, -2, -2, -2);
        BENCH.holds("nothing changed", before.equals(Bench.picture(x)));
    }

    private static void routesOfEqualWorth() {
        TickPools x = Bench.made("market 3 1;pool 0 2 0 0 1 1 1;pool 2 1 0 0 1 1 1;pool 0 1 99 0 1 1 1;pool 0 1 99 0 1 1 1"
            + ";purse 0 0 999999;purse 0 1 999999;purse 0 2 999999");
        for (int pool = 0; pool < 4; pool++) {
            x.add(0, pool, 10, 30, 0, 99999);
        }
        // By 0 and 1: 3.99 of 5, and 1.99 of 3; straight on: n of 5 is 4, and 2.99. The shortest, then the first.
        BENCH.due("by pool 2", x.quoteIn(2, 0, 5, 0, 0), 2);
        BENCH.due("by pool 0", x.quoteIn(0, 0, 5, 0, 0), 3);
        BENCH.due("on by pool 1", x.quoteIn(1, 0, 3, 0, 0), 1);
        routeIs(x, 0, 1, 5, 2, 1, 2, -2, -2);
        // Of 12 there are 10 and 8 by two, and n is 10 straight on: 8 as well.
        BENCH.due("by pool 2", x.quoteIn(2, 0, 12, 0, 0), 8);
        BENCH.due("by pool 0", x.quoteIn(0, 0, 12, 0, 0), 10);
        BENCH.due("on by pool 1", x.quoteIn(1, 0, 10, 0, 0), 8);
        routeIs(x, 0, 1, 12, 8, 1, 2, -2, -2);
    }

    private static void partsOfAmounts() {
        TickPools x = Bench.made("market 2 1;pool 0 1 0 0 1 1 1;pool 0 1 0 0 1 1 1"
            + ";purse 0 0 999999;purse 0 1 999999");
        x.add(0, 0, 10, 30, 0, 50000);
        x.add(0, 1, 10, 30, 0, 50000);
        String before = Bench.picture(x);
        // Like pools: the parts go by turns, so that half of them go by another row than the first.
        BENCH.due("by turns", x.parts(0, 1, 10000, 1), 5);
        BENCH.holds("more than in one go", x.parts(0, 1, 10000, 0) > x.route(0, 1, 10000, 0));
        BENCH.holds("nothing changed", before.equals(Bench.picture(x)));
        // Of 5 the parts are 0 and 1 by turns, and of 1 nothing comes out.
        BENCH.due("parts too small", x.parts(0, 1, 5, 0), -2);
        x = Bench.made("market 2 1;pool 0 1 0 0 1 9999 1;purse 0 0 999999;purse 0 1 999999");
        x.add(0, 0, 0, 40, 0, 50000);
        // Here each of the first thing gives some six of the second. Parts of 0 are not swapped.
        BENCH.due("one part alone", x.parts(0, 1, 1, 0), x.quoteIn(0, 0, 1, 0, 0));
        BENCH.due("one row", x.parts(0, 1, 1, 1), 0);
        BENCH.holds("five parts", x.parts(0, 1, 5, 0) > 4 * x.parts(0, 1, 1, 0));
    }

    private static void partsThatAreNone() {
        TickPools x = Bench.made("market 2 1;pool 0 1 0 0 1 1 1;purse 0 0 999999;purse 0 1 999999");
        x.add(0, 0, 19, 21, 0, 10000);
        BENCH.holds("enough for nine parts", x.route(0, 1, 9999, 0) > 0);
        BENCH.due("not for all ten", x.parts(0, 1, 9999, 0), -2);
        BENCH.due("not for all ten", x.parts(0, 1, 9999, 1), -2);
        BENCH.holds("for all ten", x.parts(0, 1, 480, 0) > 0);
    }

    private static void rings() {
        TickPools x = Bench.made("market 3 1;pool 0 1 0 0 1 4 1;pool 0 1 0 0 1 1 1;purse 0 0 999999;purse 0 1 999999");
        x.add(0, 0, 0, 40, 0, 99999);
        x.add(0, 1, 0, 40, 0, 99999);
        int[] due = new int[3];
        for (int amount = 1; amount <= 10000; amount *= 10) {
            int there = x.quoteIn(0, 0, amount, 0, 0);
            int back = there > 0 ? x.quoteIn(1, 1, there, 40, 0) : 0;
            if (back - amount > due[0]) {
                due[0] = back - amount;
                due[1] = amount;
            }
        }
        BENCH.holds("there is a gain", due[0] > 0);
        int[] all = {due[0], due[1], 2, 0, 1, -2};
        for (int what = 0; what < 6; what++) {
            BENCH.due("ring of 0, what " + what, x.ring(0, what), all[what]);
        }
        BENCH.due("the other way round", x.ring(1, 3), 1);
        BENCH.due("the other way round", x.ring(1, 4), 0);
        BENCH.due("of a thing without pools", x.ring(2, 0), -2);
        x = Bench.made("market 3 1;pool 0 1 0 0 1 4 1;pool 1 2 0 0 1 1 1;pool 2 0 0 0 1 1 1"
            + ";purse 0 0 999999;purse 0 1 999999;purse 0 2 999999");
        for (int pool = 0; pool < 3; pool++) {
            x.add(0, pool, 0, 40, 0, 99999);
        }
        BENCH.due("three pools", x.ring(0, 2), 3);
        BENCH.due("the first", x.ring(0, 3), 0);
        BENCH.due("the second", x.ring(0, 4), 1);
        BENCH.due("the third", x.ring(0, 5), 2);
        BENCH.due("begun elsewhere", x.ring(2, 3), 2);
        x = plain();
        BENCH.due("one pool is no ring", x.ring(0, 0), -2);
        x = Bench.made("market 2 1;pool 0 1 5 0 1 1 1;pool 0 1 5 0 1 1 1;purse 0 0 999999;purse 0 1 999999");
        x.add(0, 0, 0, 40, 0, 99999);
        x.add(0, 1, 0, 40, 0, 99999);
        for (int what = 0; what < 6; what++) {
            BENCH.due("no gain", x.ring(0, what), -2);
        }
    }

    private static void ringsOfEqualWorth() {
        // Pools 1 and 2 are alike: the first of them is named.
        TickPools x = Bench.made("market 2 1;pool 0 1 0 0 1 4 1;pool 0 1 0 0 1 1 1;pool 0 1 0 0 1 1 1"
            + ";purse 0 0 9999999;purse 0 1 9999999");
        for (int pool = 0; pool < 3; pool++) {
            x.add(0, pool, 0, 40, 0, 99999);
        }
        BENCH.due("the first", x.ring(0, 3), 0);
        BENCH.due("the first of two like ones", x.ring(0, 4), 1);
        // So shallow that beyond 10 nothing more comes out: the least amount of those that gain as much.
        x = Bench.made("market 2 1;pool 0 1 0 0 1 9999 1;pool 0 1 0 0 1 1 1;purse 0 0 9999999;purse 0 1 9999999");
        x.add(0, 0, 39, 40, 0, 400);
        x.add(0, 1, 20, 40, 0, 99999);
        int gainOfOne = x.quoteIn(1, 1, x.quoteIn(0, 0, 1, 0, 0), 40, 0) - 1;
        BENCH.holds("one gains", gainOfOne > 0);
        int gainOfTen = x.quoteIn(1, 1, x.quoteIn(0, 0, 10, 0, 0), 40, 0) - 10;
        BENCH.due("the amount by the gain", x.ring(0, 1), gainOfTen > gainOfOne ? 10 : 1);
    }

    private static void wrongQuestions() {
        TickPools x = plain();
        int[] odd = {-1, 3, Integer.MAX_VALUE, Integer.MIN_VALUE};
        for (int n : odd) {
            BENCH.due("round pool", x.round(n, 0, 1), -1);
            BENCH.due("round side", x.round(0, n, 1), -1);
            BENCH.due("least pool", x.least(n, 0, 0), -1);
            BENCH.due("least side", x.least(0, n, 0), -1);
            BENCH.due("route from", x.route(n, 1, 1, 0), -1);
            BENCH.due("route to", x.route(0, n, 1, 0), -1);
            BENCH.due("parts from", x.parts(n, 1, 1, 0), -1);
            BENCH.due("parts to", x.parts(0, n, 1, 0), -1);
            BENCH.due("ring thing", x.ring(n, 0), -1);
        }
        int[] noAmounts = {0, -1, 10000000, Integer.MAX_VALUE, Integer.MIN_VALUE};
        for (int n : noAmounts) {
            BENCH.due("round amount", x.round(0, 0, n), -1);
            BENCH.due("route amount", x.route(0, 1, n, 0), -1);
            BENCH.due("parts amount", x.parts(0, 1, n, 0), -1);
        }
        BENCH.due("least zone", x.least(0, 0, -1), -1);
        BENCH.due("least zone", x.least(0, 0, 40), -1);
        BENCH.due("like things", x.route(1, 1, 1, 0), -1);
        BENCH.due("like things", x.parts(1, 1, 1, 0), -1);
        BENCH.due("route what", x.route(0, 1, 100, 5), -1);
        BENCH.due("route what", x.route(0, 1, 100, -1), -1);
        BENCH.due("route what, where there is none", x.route(0, 2, 100, 5), -1);
        BENCH.due("parts what", x.parts(0, 1, 100, 2), -1);
        BENCH.due("parts what", x.parts(0, 1, 100, -1), -1);
        BENCH.due("ring what", x.ring(0, 6), -1);
        BENCH.due("ring what", x.ring(0, -1), -1);
    }
}
