/** Promises 15 to 20 and 27: swaps in and out, time, the mean, quotes. */
public final class SwapTest {
    private static final Bench BENCH = new Bench("SwapTest");

    public static void main(String[] args) {
        withinOneStep();
        acrossATick();
        upToAnEnd();
        noStep();
        inWrongly();
        emptyPool();
        outWithinOneStep();
        outAcrossATick();
        outThatCannotBe();
        outTooPoor();
        outWrongly();
        dropsByThemselves();
        dropsOnlyWhenCrossed();
        dropsOfOneSideOnly();
        backUpThroughTheSameTick();
        feesOnlyToThoseThatAreIn();
        tinyAmountIsAllFee();
        endInItsOwnZone();
        rootOnATick();
        withinTheOutermostZones();
        time();
        means();
        marksAreEight();
        meansOverManyMarks();
        quotesWrongly();
        BENCH.finish();
    }

    private static void withinOneStep() {
        TickPools x = Bench.plain();
        // n is 99; the root becomes 10^14 / (10^9 + 9900000) = 99019.7; 10000 * 980 / 100000 comes out.
        BENCH.quoteInIs(x, 0, 100, 0, 98, 0, 1, 19, 0);
        BENCH.due("in", x.in(1, 0, 0, 100, 0), 98);
        BENCH.due("root", x.pool(0, 6), 99020);
        BENCH.due("zone", x.pool(0, 5), 19);
        BENCH.due("purse", x.purse(1, 0), 49900);
        BENCH.due("purse", x.purse(1, 1), 50098);
        BENCH.due("held", x.pool(0, 8), 566);
        BENCH.due("held", x.pool(0, 9), 368);
        // 1048576 / 10000 is 104; 10000 * 104 / 1048576 is 0.99.
        BENCH.due("owed", x.stake(0, 8), 0);
        x = Bench.plain();
        // The root is 99 * 100000 / 10000 more; 10^9 * 990 / (100000 * 100990) = 98.03.
        BENCH.quoteInIs(x, 1, 100, 40, 98, 0, 1, 20, 0);
        BENCH.due("in", x.in(1, 0, 1, 100, 40), 98);
        BENCH.due("root", x.pool(0, 6), 100990);
        BENCH.due("zone", x.pool(0, 5), 20);
        BENCH.due("crossed", x.count(5), 0);
    }

    private static void acrossATick() {
        TickPools x = Bench.plain();
        // Wanted 488.1: 489; fee 4.9: 5; out 465.4: 465; then there is nothing down to tick 0.
        BENCH.quoteInIs(x, 0, 1000, 0, 465, 506, 5, 0, 1);
        BENCH.due("in", x.in(1, 0, 0, 1000, 0), 465);
        BENCH.due("purse", x.purse(1, 0), 50000 - 494);
        BENCH.due("purse", x.purse(1, 1), 50465);
        BENCH.due("root", x.pool(0, 6), 38554);
        BENCH.due("zone", x.pool(0, 5), 0);
        BENCH.due("crossed", x.count(5), 1);
        BENCH.due("house", x.pool(0, 10), 1);
        BENCH.due("held", x.pool(0, 8), 466 + 494);
        BENCH.due("held", x.pool(0, 9), 1);
        x = Bench.plain();
        // Just enough for the tick: 494 * 990 / 1000 = 489.06. It is crossed, and nothing is left.
        BENCH.quoteInIs(x, 0, 494, 0, 465, 0, 5, 18, 1);
        // One less: the root stops at 95348, and 465.2 comes out all the same.
        BENCH.quoteInIs(x, 0, 493, 0, 465, 0, 5, 19, 0);
        BENCH.due("in", x.in(1, 0, 0, 494, 0), 465);
        BENCH.due("zone", x.pool(0, 5), 18);
        BENCH.due("root", x.pool(0, 6), 95346);
        BENCH.due("is it in", x.stake(0, 10), 0);
        x = Bench.plain();
        // Up: wanted 488, fee 4.93: 5, out 465.29: 465; with 493 the tick 21 is crossed.
        BENCH.quoteInIs(x, 1, 493, 40, 465, 0, 5, 21, 1);
        BENCH.quoteInIs(x, 1, 492, 40, 464, 0, 5, 20, 0);
        BENCH.quoteInIs(x, 1, 600, 40, 465, 107, 5, 39, 1);
        BENCH.due("in", x.in(0, 0, 1, 600, 40), 465);
        BENCH.due("root", x.pool(0, 6), 259374);
        BENCH.due("zone", x.pool(0, 5), 39);
    }

    private static void upToAnEnd() {
        TickPools x = Bench.plain();
        BENCH.quoteInIs(x, 0, 1000, 19, 465, 506, 5, 19, 0);
        BENCH.quoteInIs(x, 0, 1000, 18, 465, 506, 5, 18, 1);
        BENCH.quoteInIs(x, 0, 1000, 20, 0, 1000, 0, 20, 0);
        BENCH.quoteInIs(x, 1, 1000, 21, 465, 507, 5, 20, 0);
        BENCH.quoteInIs(x, 1, 1000, 22, 465, 507, 5, 21, 1);
        BENCH.due("in to 19", x.in(1, 0, 0, 1000, 19), 465);
        BENCH.due("root", x.pool(0, 6), 95346);
        BENCH.due("zone", x.pool(0, 5), 19);
        BENCH.due("is it in", x.stake(0, 10), 1);
        BENCH.due("crossed", x.count(5), 0);
        BENCH.due("purse", x.purse(1, 0), 50000 - 494);
    }

    private static void noStep() {
        TickPools x = Bench.plain();
        BENCH.quoteInIs(x, 0, 50, 21, 0, 50, 0, 20, 0);
        BENCH.quoteInIs(x, 1, 50, 20, 0, 50, 0, 20, 0);
        BENCH.quoteInIs(x, 1, 50, 0, 0, 50, 0, 20, 0);
        String before = Bench.picture(x);
        BENCH.due("in", x.in(1, 0, 0, 50, 21), 0);
        BENCH.due("in", x.in(1, 0, 1, 50, 20), 0);
        BENCH.holds("nothing moved", before.equals(Bench.picture(x)));
    }

    private static void inWrongly() {
        TickPools x = Bench.plain();
        String before = Bench.picture(x);
        int[][] wrong = {
            {2, 0, 0, 1, 0}, {-1, 0, 0, 1, 0}, {0, 1, 0, 1, 0}, {0, -1, 0, 1, 0}, {0, 0, 2, 1, 0}, {0, 0, -1, 1, 0},
            {0, 0, 0, 0, 0}, {0, 0, 0, -5, 0}, {1, 0, 0, 50001, 0}, {1, 0, 1, 50001, 40}, {0, 0, 0, 1, -1},
            {0, 0, 0, 1, 41}, {0, 0, 0, Integer.MAX_VALUE, 0},
        };
        for (int[] w : wrong) {
            BENCH.due("in " + java.util.Arrays.toString(w), x.in(w[0], w[1], w[2], w[3], w[4]), -1);
        }
        BENCH.holds("nothing happened", before.equals(Bench.picture(x)));
        BENCH.due("all of a purse", x.in(1, 0, 0, 50000, 0), 465);
    }

    private static void emptyPool() {
        TickPools x = Bench.made(Bench.PLAIN);
        BENCH.due("nothing comes out", x.in(0, 0, 0, 5, 7), 0);
        BENCH.due("nothing came in", x.purse(0, 0), 100000);
        BENCH.due("zone", x.pool(0, 5), 7);
        BENCH.due("root", x.pool(0, 6), 53820);
        BENCH.due("up", x.in(0, 0, 1, 5, 9), 0);
        BENCH.due("zone", x.pool(0, 5), 8);
        BENCH.due("root", x.pool(0, 6), 59202);
        BENCH.due("out", x.out(0, 0, 0, 1), -2);
        BENCH.due("zone", x.pool(0, 5), 8);
    }

    private static void outWithinOneStep() {
        TickPools x = Bench.plain();
        // The root is 1000 less; FIRST 101.01: 102; fee 1.03: 2.
        BENCH.quoteOutIs(x, 0, 100, 104, 2, 19, 0);
        BENCH.due("out", x.out(1, 0, 0, 100), 104);
        BENCH.due("root", x.pool(0, 6), 99000);
        BENCH.due("purse", x.purse(1, 0), 50000 - 104);
        BENCH.due("purse", x.purse(1, 1), 50100);
        x = Bench.plain();
        // The root becomes 10^14 / (10^9 - 10^7) = 101010.1: 101011; SECOND 101.1: 102; fee 2.
        BENCH.quoteOutIs(x, 1, 100, 104, 2, 20, 0);
        BENCH.due("out", x.out(1, 0, 1, 100), 104);
        BENCH.due("root", x.pool(0, 6), 101011);
        BENCH.due("purse", x.purse(1, 0), 50100);
        BENCH.due("purse", x.purse(1, 1), 50000 - 104);
    }

    private static void outAcrossATick() {
        TickPools x = Bench.plain();
        BENCH.quoteOutIs(x, 0, 465, 494, 5, 18, 1);
        BENCH.due("out", x.out(1, 0, 0, 465), 494);
        BENCH.due("zone", x.pool(0, 5), 18);
        BENCH.due("root", x.pool(0, 6), 95346);
        BENCH.due("crossed", x.count(5), 1);
        x = Bench.plain();
        BENCH.quoteOutIs(x, 1, 465, 493, 5, 21, 1);
        x.add(0, 0, 21, 22, 0, 10000);
        // On behind tick 21: 10^9 * 104880 / (10^9 - 10 * 104880) = 104990.1: 104991; SECOND 11.1: 12; fee 0.1: 1.
        BENCH.quoteOutIs(x, 1, 475, 493 + 13, 6, 21, 1);
    }

    private static void outThatCannotBe() {
        TickPools x = Bench.plain();
        x.passes(3);
        String before = Bench.picture(x);
        BENCH.due("out", x.out(0, 0, 0, 466), -2);
        BENCH.due("out", x.out(0, 0, 1, 466), -2);
        BENCH.due("out of the most", x.out(0, 0, 1, 9999999), -2);
        BENCH.holds("nothing happened", before.equals(Bench.picture(x)));
        BENCH.quoteOutIs(x, 0, 466, -2, -2, -2, -2);
        // A stake that ends at tick 0: all comes out, and it is at its end.
        x = Bench.made("market 2 1;pool 0 1 0 0 1 1 9999;purse 0 0 99999;purse 0 1 99999");
        x.add(0, 0, 0, 1, 0, 99999);
        x.in(0, 0, 1, 99999, 1);
        // FIRST of all that: 9999900000 * 1882 / (38554 * 40436) = 12071.97.
        BENCH.due("all of it", x.out(0, 0, 0, 1881), 12072);
        BENCH.due("zone", x.pool(0, 5), 0);
        BENCH.due("root", x.pool(0, 6), 38554);
        BENCH.due("at its end nothing was crossed", x.count(5), 0);
    }

    private static void outTooPoor() {
        TickPools x = Bench.made("market 2 2;pool 0 1 10 20 1 1 1;purse 0 0 9000;purse 0 1 9000;purse 1 0 103");
        x.add(0, 0, 19, 21, 0, 10000);
        String before = Bench.picture(x);
        BENCH.due("one too poor", x.out(1, 0, 0, 100), -3);
        BENCH.due("can't be goes first", x.out(1, 0, 0, 466), -2);
        BENCH.holds("nothing happened", before.equals(Bench.picture(x)));
        x = Bench.made("market 2 2;pool 0 1 10 20 1 1 1;purse 0 0 9000;purse 0 1 9000;purse 1 0 104");
        x.add(0, 0, 19, 21, 0, 10000);
        BENCH.due("just enough", x.out(1, 0, 0, 100), 104);
        BENCH.due("purse", x.purse(1, 0), 0);
        // His own stake would fall to him on the way: that does not help.
        x = Bench.made("market 2 2;pool 0 1 10 20 1 1 1;purse 0 0 9000;purse 0 1 9000;purse 1 0 956;purse 1 1 467");
        x.add(1, 0, 19, 21, 2, 10000);
        BENCH.due("purse ahead of it", x.purse(1, 0), 490);
        before = Bench.picture(x);
        BENCH.due("too poor ahead of it", x.out(1, 0, 0, 465), -3);
        BENCH.holds("nothing happened", before.equals(Bench.picture(x)));
    }

    private static void outWrongly() {
        TickPools x = Bench.plain();
        String before = Bench.picture(x);
        int[][] wrong = {
            {2, 0, 0, 1}, {-1, 0, 0, 1}, {0, 1, 0, 1}, {0, -1, 0, 1}, {0, 0, 2, 1}, {0, 0, -1, 1},
            {0, 0, 0, 0}, {0, 0, 0, -1}, {0, 0, 0, 10000000}, {0, 0, 0, Integer.MIN_VALUE},
        };
        for (int[] w : wrong) {
            BENCH.due("out " + java.util.Arrays.toString(w), x.out(w[0], w[1], w[2], w[3]), -1);
        }
        BENCH.holds("nothing happened", before.equals(Bench.picture(x)));
    }

    private static void dropsByThemselves() {
        TickPools x = Bench.made(Bench.PLAIN);
        x.add(0, 0, 19, 21, 2, 10000);
        x.add(0, 0, 30, 31, 0, 1);
        int had = x.purse(0, 0);
        BENCH.due("in", x.in(1, 0, 0, 494, 0), 465);
        BENCH.due("one is left", x.count(3), 1);
        BENCH.due("that one", x.stake(0, 2), 30);
        // 953.4 of it, and 3 of the fee of this very step.
        BENCH.due("purse", x.purse(0, 0), had + 956);
        BENCH.due("crossed", x.count(5), 1);
        x = Bench.made(Bench.PLAIN);
        x.add(0, 0, 19, 21, 1, 10000);
        x.add(1, 0, 20, 21, 1, 10000);
        x.add(1, 0, 19, 21, 0, 10000);
        had = x.purse(1, 1);
        int hadOther = x.purse(0, 1);
        // SECOND of 30000 to tick 21: 1464; fee 14.8: 15, the house has 3; 12 * 1048576 / 30000 is 419, 3 to each.
        BENCH.due("up", x.in(0, 0, 1, 1479, 40), 1395);
        BENCH.due("only the lasting one", x.count(3), 1);
        BENCH.due("that one", x.stake(0, 4), 0);
        BENCH.due("purse", x.purse(1, 1), had + 488 + 3);
        BENCH.due("purse", x.purse(0, 1), hadOther - 1479 + 953 + 3);
        BENCH.due("what lasts is owed", x.stake(0, 9), 3);
        BENCH.due("total", x.total(0), 150000);
        BENCH.due("total", x.total(1), 150000);
        x = Bench.made(Bench.PLAIN);
        x.add(0, 0, 19, 21, 2, 10000);
        BENCH.due("out drops them, too", x.out(1, 0, 0, 465), 494);
        BENCH.due("none is left", x.count(3), 0);
    }

    private static void dropsOnlyWhenCrossed() {
        TickPools x = Bench.made(Bench.PLAIN);
        x.add(0, 0, 19, 21, 2, 10000);
        BENCH.due("to the end", x.in(1, 0, 0, 494, 19), 465);
        BENCH.due("it stays", x.count(3), 1);
        BENCH.due("one more", x.in(1, 0, 0, 1, 0), 0);
        BENCH.due("crossed now", x.count(5), 1);
        BENCH.due("dropped now", x.count(3), 0);
    }

    private static void dropsOfOneSideOnly() {
        TickPools x = Bench.made(Bench.PLAIN);
        x.add(0, 0, 19, 21, 1, 10000);
        x.in(1, 0, 0, 494, 0);
        BENCH.due("auto 1 stays downwards", x.count(3), 1);
        x = Bench.made(Bench.PLAIN);
        x.add(0, 0, 19, 21, 2, 10000);
        x.in(1, 0, 1, 493, 40);
        BENCH.due("auto 2 stays upwards", x.count(3), 1);
        x = Bench.made("market 2 1;pool 0 1 0 0 1 1 1;pool 0 1 0 0 1 1 1;purse 0 0 9999;purse 0 1 9999");
        x.add(0, 0, 19, 21, 2, 10000);
        x.add(0, 1, 19, 21, 2, 10000);
        x.in(0, 0, 0, 9000, 0);
        BENCH.due("of the other pool stays", x.count(3), 1);
        BENCH.due("that one", x.stake(0, 1), 1);
    }

    private static void backUpThroughTheSameTick() {
        TickPools x = Bench.plain();
        x.in(1, 0, 0, 494, 0);
        BENCH.due("zone", x.pool(0, 5), 18);
        BENCH.due("in its zone there is none", x.pool(0, 7), 0);
        // A tick at which it stands is crossed by a step of nothing; 10^9 * 990 / (95346 * 96336) = 107.8.
        BENCH.quoteInIs(x, 1, 100, 40, 107, 0, 1, 19, 1);
        BENCH.due("up", x.in(1, 0, 1, 100, 40), 107);
        BENCH.due("zone", x.pool(0, 5), 19);
        BENCH.due("crossed", x.count(5), 2);
    }

    private static void feesOnlyToThoseThatAreIn() {
        TickPools x = Bench.made("market 2 2;pool 0 1 99 0 1 1 1;purse 0 0 999999;purse 0 1 999999;purse 1 1 99999");
        x.add(0, 0, 20, 22, 0, 1000);
        x.add(0, 0, 20, 21, 0, 3000);
        x.add(0, 0, 21, 22, 0, 5000);
        // n is 90 of 100, fee 10: 10 * 1048576 / 4000 is 2621; 2.49 and 7.49.
        x.in(1, 0, 1, 100, 40);
        BENCH.due("owed", x.stake(0, 9), 2);
        BENCH.due("owed", x.stake(1, 9), 7);
        BENCH.due("owed", x.stake(2, 9), 0);
        BENCH.due("no house", x.pool(0, 11), 0);
    }

    private static void tinyAmountIsAllFee() {
        TickPools x = Bench.made("market 2 1;pool 0 1 1 100 1 1 1;purse 0 0 999999;purse 0 1 999999");
        x.add(0, 0, 10, 30, 0, 99999);
        // n of 1 is 0: all is fee, and all of that is the house's.
        BENCH.quoteInIs(x, 0, 1, 0, 0, 0, 1, 20, 0);
        BENCH.due("in", x.in(0, 0, 0, 1, 0), 0);
        BENCH.due("root", x.pool(0, 6), 100000);
        BENCH.due("house", x.pool(0, 10), 1);
        BENCH.due("owed", x.stake(0, 8), 0);
    }

    private static void endInItsOwnZone() {
        TickPools x = Bench.plain();
        x.in(1, 0, 1, 100, 40);
        // Down from 100990 to tick 20: FIRST 10^9 * 990 / (100000 * 100990) = 98.03: 99; fee 1; SECOND 99.
        BENCH.quoteInIs(x, 0, 500, 20, 99, 400, 1, 20, 0);
        BENCH.quoteInIs(x, 1, 500, 20, 0, 500, 0, 20, 0);
        BENCH.due("in", x.in(1, 0, 0, 500, 20), 99);
        BENCH.due("root", x.pool(0, 6), 100000);
        BENCH.due("zone", x.pool(0, 5), 20);
    }

    private static void rootOnATick() {
        TickPools x = Bench.made("market 2 1;pool 0 1 0 0 1 1 1;purse 0 0 9999999;purse 0 1 9999999");
        x.add(0, 0, 15, 25, 0, 50000);
        x.add(0, 0, 15, 25, 1, 50000);
        // 4880 * 100000 / 100000 more: the root of tick 21, at which no stake begins or ends.
        BENCH.quoteInIs(x, 1, 4880, 40, 4652, 0, 0, 21, 0);
        BENCH.quoteInIs(x, 1, 4879, 40, 4652, 0, 0, 20, 0);
        x = Bench.made("market 2 1;pool 0 1 0 0 1 1 1;purse 0 0 9999999;purse 0 1 9999999");
        for (int i = 0; i < 10; i++) {
            x.add(0, 0, 20, 21, 0, 99999);
            x.add(0, 0, 19, 20, 0, 99999);
        }
        // Of 999990 there are 46528.8 up to tick 21: one less, and the root is upwards that of 21, but not reached.
        BENCH.quoteOutIs(x, 1, 46527, 48800, 0, 20, 0);
        BENCH.quoteOutIs(x, 1, 46528, 48800, 0, 21, 1);
        // Across tick 20, at which it stands, there are 46539.5 down to tick 19.
        BENCH.quoteOutIs(x, 0, 46538, 48812, 0, 19, 1);
        BENCH.quoteOutIs(x, 0, 46539, 48812, 0, 18, 2);
        x.out(0, 0, 0, 46538);
        BENCH.due("root", x.pool(0, 6), 95346);
        BENCH.due("zone", x.pool(0, 5), 19);
        // The tick itself is still ahead.
        BENCH.quoteInIs(x, 0, 1, 0, 0, 1, 0, 0, 1);
    }

    private static void withinTheOutermostZones() {
        TickPools x = Bench.made("market 2 1;pool 0 1 0 0 1 1 9999;purse 0 0 9999999;purse 0 1 9999999");
        x.add(0, 0, 0, 3, 0, 99999);
        x.in(0, 0, 1, 3000, 40);
        // 3000 * 100000 / 99999 more than 38554.
        BENCH.due("root", x.pool(0, 6), 41554);
        BENCH.due("zone", x.pool(0, 5), 1);
        BENCH.due("down", x.in(0, 0, 0, 12000, 0), 1972);
        BENCH.due("root", x.pool(0, 6), 39581);
        BENCH.due("zone", x.pool(0, 5), 0);
        x = Bench.made("market 2 1;pool 0 1 0 0 1 9999 1;purse 0 0 9999999;purse 0 1 9999999");
        x.add(0, 0, 37, 40, 0, 99999);
        x.in(0, 0, 0, 4000, 0);
        BENCH.due("zone", x.pool(0, 5), 37);
        x.in(0, 0, 1, 20000, 40);
        BENCH.due("zone", x.pool(0, 5), 39);
    }

    private static void time() {
        TickPools x = Bench.plain();
        BENCH.due("passes", x.passes(1), 1);
        BENCH.due("passes", x.passes(9999), 10000);
        BENCH.due("none", x.passes(0), -1);
        BENCH.due("back", x.passes(-1), -1);
        BENCH.due("too much", x.passes(10000), -1);
        BENCH.due("most", x.passes(Integer.MAX_VALUE), -1);
        BENCH.due("time", x.count(4), 10000);
    }

    private static void means() {
        TickPools x = Bench.plain();
        BENCH.due("nothing passed", x.mean(0, 1), -2);
        x.passes(10);
        BENCH.due("mean", x.mean(0, 10), 20);
        BENCH.due("mean", x.mean(0, 1), 20);
        BENCH.due("too far", x.mean(0, 11), -2);
        BENCH.due("none", x.mean(0, 0), -1);
        BENCH.due("below none", x.mean(0, -3), -1);
        BENCH.due("no pool", x.mean(1, 1), -1);
        BENCH.due("most", x.mean(0, Integer.MAX_VALUE), -2);
        x.in(1, 0, 0, 494, 0);
        BENCH.due("of what was", x.mean(0, 10), 20);
        x.passes(5);
        BENCH.due("mean", x.mean(0, 5), 18);
        // 5 * 18 and 2 * 20 by 7: 18.57.
        BENCH.due("mean", x.mean(0, 7), 18);
        // 5 * 18 and 10 * 20 by 15: 19.33.
        BENCH.due("mean", x.mean(0, 15), 19);
        BENCH.due("too far", x.mean(0, 16), -2);
        x.in(1, 0, 0, 1, 0);
        x.in(1, 0, 0, 1, 0);
        x.passes(1);
        BENCH.due("mean", x.mean(0, 1), 0);
        // 0, 5 * 18 and 4 * 20 by 10.
        BENCH.due("mean", x.mean(0, 10), 17);
    }

    private static void marksAreEight() {
        TickPools x = Bench.plain();
        x.in(1, 0, 0, 1, 0);
        for (int i = 1; i <= 7; i++) {
            x.passes(2);
            x.in(1, 0, 0, 1, 0);
            x.in(1, 0, 1, 1, 40);
        }
        BENCH.due("the first mark is there", x.mean(0, 14), 20);
        x.passes(1);
        BENCH.due("out that can't be marks nothing", x.out(1, 0, 0, 9999999), -2);
        x.quoteIn(0, 0, 5, 0, 0);
        x.round(0, 0, 5);
        BENCH.holds("the first mark is there", x.mean(0, 15) >= 0);
        x.in(1, 0, 0, 1, 40);
        BENCH.due("it is gone, the next one is at 2", x.mean(0, 14), -2);
        BENCH.holds("from 2 on it is known", x.mean(0, 13) >= 0);
    }

    private static void meansOverManyMarks() {
        TickPools x = Bench.made(Bench.PLAIN);
        int[] zones = new int[200];
        int time = 0;
        int zone = 20;
        // Nothing is staked: so an end can be gone to at will, and each second's zone is known here.
        for (int i = 1; i <= 20; i++) {
            int passed = i % 4 == 0 ? 1 : i % 5 + 1;
            for (int s = 0; s < passed; s++) {
                zones[time + s] = zone;
            }
            time += passed;
            x.passes(passed);
            int goal = i * 7 % 39;
            if (goal <= zone) {
                x.in(0, 0, 0, 1, goal);
                zone = goal;
            } else {
                x.in(0, 0, 1, 1, goal);
                zone = goal - 1;
            }
            BENCH.due("zone", x.pool(0, 5), zone);
            int first = 0;
            int sum = 0;
            for (int n = 1; n <= time; n++) {
                sum += zones[time - n];
                int mean = x.mean(0, n);
                if (mean == -2) {
                    first = n;
                    break;
                }
                BENCH.due("mean of " + n, mean, sum / n);
            }
            BENCH.holds("known as long as eight marks", i < 8 ? first == 0 : first > 7);
        }
    }

    private static void quotesWrongly() {
        TickPools x = Bench.plain();
        int[] odd = {-1, 2, Integer.MAX_VALUE, Integer.MIN_VALUE};
        for (int n : odd) {
            BENCH.due("quoteIn pool", x.quoteIn(n, 0, 1, 0, 0), -1);
            BENCH.due("quoteIn side", x.quoteIn(0, n, 1, 0, 0), -1);
            BENCH.due("quoteOut pool", x.quoteOut(n, 0, 1, 0), -1);
            BENCH.due("quoteOut side", x.quoteOut(0, n, 1, 0), -1);
        }
        int[] noAmounts = {0, -1, 10000000, Integer.MAX_VALUE, Integer.MIN_VALUE};
        for (int n : noAmounts) {
            BENCH.due("quoteIn amount", x.quoteIn(0, 0, n, 0, 0), -1);
            BENCH.due("quoteOut amount", x.quoteOut(0, 0, n, 0), -1);
        }
        BENCH.due("quoteIn of the most", x.quoteIn(0, 0, 9999999, 0, 0), 465);
        BENCH.due("quoteIn end", x.quoteIn(0, 0, 1, -1, 0), -1);
        BENCH.due("quoteIn end", x.quoteIn(0, 0, 1, 41, 0), -1);
        BENCH.due("quoteIn what", x.quoteIn(0, 0, 1, 0, 5), -1);
        BENCH.due("quoteIn what", x.quoteIn(0, 0, 1, 0, -1), -1);
        BENCH.due("quoteOut what", x.quoteOut(0, 0, 1, 4), -1);
        BENCH.due("quoteOut what", x.quoteOut(0, 0, 1, -1), -1);
        BENCH.due("quoteOut what, of what can't be", x.quoteOut(0, 0, 9999, 4), -1);
    }
}
