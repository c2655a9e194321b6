/** Promises 6 to 14 and 26, 27: what there is, and what people do with stakes. */
public final class StakeTest {
    private static final Bench BENCH = new Bench("StakeTest");

    public static void main(String[] args) {
        roots();
        poolsAtFirst();
        wrongQuestions();
        adding();
        addingWrongly();
        addingToTheSame();
        thirteenStakes();
        takingParts();
        takingAll();
        paying();
        levying();
        dustStaysOver();
        BENCH.finish();
    }

    private static void roots() {
        TickPools x = new TickPools();
        long price = 10000000000L;
        for (int tick = 20; tick <= 40; tick++) {
            BENCH.due("root " + tick, x.root(tick), (long) Math.floor(Math.sqrt((double) price)));
            price = price * 11 / 10;
        }
        price = 10000000000L;
        for (int tick = 20; tick >= 0; tick--) {
            BENCH.due("root " + tick, x.root(tick), (long) Math.floor(Math.sqrt((double) price)));
            price = price * 10 / 11;
        }
        BENCH.due("root -1", x.root(-1), -1);
        BENCH.due("root 41", x.root(41), -1);
        BENCH.due("root least", x.root(Integer.MIN_VALUE), -1);
        BENCH.due("root most", x.root(Integer.MAX_VALUE), -1);
    }

    private static void startsAt(int a, int b, int root, int zone) {
        TickPools x = Bench.made("market 2 1;pool 1 0 7 8 9 " + a + " " + b);
        BENCH.due("root of " + a + "/" + b, x.pool(0, 6), root);
        BENCH.due("zone of " + a + "/" + b, x.pool(0, 5), zone);
    }

    private static void poolsAtFirst() {
        startsAt(1, 1, 100000, 20);
        startsAt(9999, 1, 259374, 39);
        startsAt(1, 9999, 38554, 0);
        startsAt(11, 10, 104880, 21);
        startsAt(2, 1, 141421, 27);
        startsAt(1, 2, 70710, 12);
        // 10 / 11 of 10^10 is 9090909090, whose root is 95346: just that of tick 19.
        startsAt(10, 11, 95346, 19);
        startsAt(9999, 9998, 100005, 20);
        TickPools x = Bench.made("market 3 1;pool 2 0 7 8 9 1 1");
        int[] due = {2, 0, 7, 8, 9, 20, 100000, 0, 0, 0, 0, 0, 0, 0};
        for (int what = 0; what < due.length; what++) {
            BENCH.due("pool at first, what " + what, x.pool(0, what), due[what]);
        }
    }

    private static void wrongQuestions() {
        TickPools x = Bench.made(Bench.PLAIN);
        x.add(0, 0, 19, 21, 0, 10000);
        int[] odd = {-1, Integer.MIN_VALUE, Integer.MAX_VALUE};
        for (int n : odd) {
            BENCH.due("purse", x.purse(n, 0), -1);
            BENCH.due("purse", x.purse(0, n), -1);
            BENCH.due("pool", x.pool(n, 0), -1);
            BENCH.due("pool", x.pool(0, n), -1);
            BENCH.due("depth", x.depth(n, 0), -1);
            BENCH.due("depth", x.depth(0, n), -1);
            BENCH.due("stake", x.stake(n, 0), -1);
            BENCH.due("stake", x.stake(0, n), -1);
            BENCH.due("pay", x.pay(n), -1);
            BENCH.due("levy", x.levy(n), -1);
            BENCH.due("total", x.total(n), -1);
            BENCH.due("count", x.count(n), -1);
        }
        BENCH.due("purse of 2", x.purse(2, 0), -1);
        BENCH.due("purse of thing 2", x.purse(0, 2), -1);
        BENCH.due("pool 1", x.pool(1, 0), -1);
        BENCH.due("pool what 14", x.pool(0, 14), -1);
        BENCH.due("depth 40", x.depth(0, 40), -1);
        BENCH.due("stake 1", x.stake(1, 0), -1);
        BENCH.due("stake what 11", x.stake(0, 11), -1);
        BENCH.due("pay 1", x.pay(1), -1);
        BENCH.due("levy 1", x.levy(1), -1);
        BENCH.due("total 2", x.total(2), -1);
        BENCH.due("count 7", x.count(7), -1);
    }

    private static void adding() {
        TickPools x = Bench.made(Bench.PLAIN);
        // FIRST: 10^9 * 4880 / (100000 * 104880) = 465.29; SECOND: 10000 * 4654 / 100000 = 465.4.
        BENCH.due("add", x.add(0, 0, 19, 21, 0, 10000), 0);
        BENCH.due("purse of the first", x.purse(0, 0), 100000 - 466);
        BENCH.due("purse of the second", x.purse(0, 1), 100000 - 466);
        BENCH.due("held", x.pool(0, 8), 466);
        BENCH.due("held", x.pool(0, 9), 466);
        BENCH.due("over", x.pool(0, 12), 1);
        BENCH.due("over", x.pool(0, 13), 1);
        int[] due = {0, 0, 19, 21, 0, 10000, 465, 465, 0, 0, 1};
        for (int what = 0; what < due.length; what++) {
            BENCH.due("stake, what " + what, x.stake(0, what), due[what]);
        }
        // Above the zone: FIRST alone, 10^9 * 5120 / (104880 * 110000) = 443.8.
        BENCH.due("add above", x.add(1, 0, 21, 22, 1, 10000), 1);
        BENCH.due("purse", x.purse(1, 0), 50000 - 444);
        BENCH.due("purse", x.purse(1, 1), 50000);
        BENCH.due("lies", x.stake(1, 6), 443);
        BENCH.due("lies", x.stake(1, 7), 0);
        BENCH.due("in", x.stake(1, 10), 0);
        // Below the zone, its tick being 20: SECOND alone, 10000 * 4654 / 100000 = 465.4.
        BENCH.due("add below", x.add(1, 0, 19, 20, 2, 10000), 2);
        BENCH.due("purse", x.purse(1, 0), 50000 - 444);
        BENCH.due("purse", x.purse(1, 1), 50000 - 466);
        BENCH.due("lies", x.stake(2, 6), 0);
        BENCH.due("lies", x.stake(2, 7), 465);
        BENCH.due("in", x.stake(2, 10), 0);
        BENCH.due("depth 18", x.depth(0, 18), 0);
        BENCH.due("depth 19", x.depth(0, 19), 20000);
        BENCH.due("depth 20", x.depth(0, 20), 10000);
        BENCH.due("depth 21", x.depth(0, 21), 10000);
        BENCH.due("depth 22", x.depth(0, 22), 0);
        BENCH.due("liquidity", x.pool(0, 7), 10000);
        BENCH.due("stakes", x.count(3), 3);
        BENCH.due("total", x.total(0), 150000);
        BENCH.due("total", x.total(1), 150000);
    }

    private static void addingWrongly() {
        TickPools x = Bench.made("market 2 1;pool 0 1 10 20 4 1 1;purse 0 0 1000;purse 0 1 466");
        String before = Bench.picture(x);
        int[][] wrong = {
            {1, 0, 16, 24, 0, 1}, {-1, 0, 16, 24, 0, 1}, {0, 1, 16, 24, 0, 1}, {0, -1, 16, 24, 0, 1},
            {0, 0, 17, 24, 0, 1}, {0, 0, 16, 25, 0, 1}, {0, 0, 20, 20, 0, 1}, {0, 0, 24, 20, 0, 1},
            {0, 0, -4, 20, 0, 1}, {0, 0, 20, 44, 0, 1}, {0, 0, 16, 24, -1, 1}, {0, 0, 16, 24, 3, 1},
            {0, 0, 16, 24, 0, 0}, {0, 0, 16, 24, 0, -1}, {0, 0, 16, 24, 0, 100000}, {0, 0, 20, 24, 0, 10000},
        };
        // The last but one is wrong by its liquidity; 20 to 24 of 10000 wants 1736 of the first thing.
        for (int[] w : wrong) {
            BENCH.due("add " + java.util.Arrays.toString(w), x.add(w[0], w[1], w[2], w[3], w[4], w[5]), -1);
        }
        // 16 to 20 of 2685: SECOND 466.01 wants 467, of 2684: 465.8 wants 466.
        BENCH.due("one too poor", x.add(0, 0, 16, 20, 0, 2685), -1);
        BENCH.holds("nothing happened", before.equals(Bench.picture(x)));
        BENCH.due("just enough", x.add(0, 0, 16, 20, 0, 2684), 0);
        BENCH.due("purse", x.purse(0, 1), 0);
        BENCH.due("0 to 40", x.add(0, 0, 36, 40, 2, 1), 1);
    }

    private static void addingToTheSame() {
        TickPools x = Bench.made("market 2 2;pool 0 1 99 0 1 1 1;purse 0 0 9999999;purse 0 1 9999999"
            + ";purse 1 0 9999999;purse 1 1 9999999");
        BENCH.due("first", x.add(0, 0, 19, 21, 0, 99999), 0);
        BENCH.due("another auto", x.add(0, 0, 19, 21, 1, 99999), 1);
        BENCH.due("another person", x.add(1, 0, 19, 21, 0, 99999), 2);
        BENCH.due("another low", x.add(0, 0, 18, 21, 0, 99999), 3);
        BENCH.due("another high", x.add(0, 0, 19, 22, 0, 99999), 4);
        x.in(1, 0, 1, 1000, 40);
        int owed = x.stake(0, 9);
        BENCH.due("owed", owed, 19);
        BENCH.due("the same", x.add(0, 0, 19, 21, 0, 99999), 0);
        BENCH.due("liquidity", x.stake(0, 5), 199998);
        BENCH.due("settled: still owed, not twice", x.stake(0, 9), owed);
        for (int i = 3; i <= 10; i++) {
            BENCH.due("more", x.add(0, 0, 19, 21, 0, 99999), 0);
        }
        BENCH.due("liquidity", x.stake(0, 5), 999990);
        String before = Bench.picture(x);
        BENCH.due("more than 999999", x.add(0, 0, 19, 21, 0, 10), -1);
        BENCH.holds("nothing happened", before.equals(Bench.picture(x)));
        BENCH.due("just 999999", x.add(0, 0, 19, 21, 0, 9), 0);
        BENCH.due("no stake more", x.count(3), 5);
    }

    private static void thirteenStakes() {
        TickPools x = Bench.made(Bench.PLAIN);
        for (int i = 0; i < 12; i++) {
            BENCH.due("stake " + i, x.add(0, 0, i, 40, 0, 1), i);
        }
        BENCH.due("a thirteenth", x.add(0, 0, 12, 40, 0, 1), -1);
        BENCH.due("one of the twelve", x.add(0, 0, 11, 40, 0, 1), 11);
        BENCH.due("take one", x.take(3, 1), 11);
        BENCH.due("those behind are one less", x.stake(3, 2), 4);
        BENCH.due("the last", x.stake(10, 2), 11);
        BENCH.due("room again", x.add(0, 0, 12, 40, 0, 1), 11);
    }

    private static void takingParts() {
        TickPools x = Bench.made(Bench.PLAIN);
        x.add(0, 0, 19, 21, 0, 10000);
        String before = Bench.picture(x);
        BENCH.due("none", x.take(0, 0), -1);
        BENCH.due("below none", x.take(0, -1), -1);
        BENCH.due("too much", x.take(0, 10001), -1);
        BENCH.due("no such", x.take(1, 1), -1);
        BENCH.due("no such", x.take(-1, 1), -1);
        BENCH.holds("nothing happened", before.equals(Bench.picture(x)));
        x.in(1, 0, 0, 494, 0);
        // Of the fee of 5 the house has 1; 4 * 1048576 / 10000 is 419; 10000 * 419 / 1048576 is 3.99.
        BENCH.due("owed", x.stake(0, 8), 3);
        BENCH.due("house", x.pool(0, 10), 1);
        // The zone is below now: FIRST of 4000 over all, 4 * 10^8 * 9534 / (95346 * 104880) = 381.4.
        int had = x.purse(0, 0);
        BENCH.due("take a part", x.take(0, 4000), 1);
        BENCH.due("purse", x.purse(0, 0), had + 381);
        BENCH.due("settled: owed as before", x.stake(0, 8), 3);
        BENCH.due("liquidity", x.stake(0, 5), 6000);
        BENCH.due("total", x.total(0), 150000);
    }

    private static void takingAll() {
        TickPools x = Bench.made(Bench.PLAIN);
        x.add(0, 0, 19, 21, 0, 10000);
        x.add(1, 0, 30, 31, 0, 5);
        x.in(1, 0, 0, 494, 0);
        int had = x.purse(0, 0);
        BENCH.due("take all", x.take(0, 10000), 1);
        // 953.4 of it, and what was owed.
        BENCH.due("purse", x.purse(0, 0), had + 953 + 3);
        BENCH.due("the other one is the first", x.stake(0, 2), 30);
        BENCH.due("take all", x.take(0, 5), 0);
        BENCH.due("none", x.count(3), 0);
        BENCH.due("total", x.total(0), 150000);
        BENCH.due("total", x.total(1), 150000);
    }

    private static void paying() {
        TickPools x = Bench.made(Bench.PLAIN);
        x.add(0, 0, 19, 21, 0, 10000);
        BENCH.due("nothing", x.pay(0), 0);
        x.in(1, 0, 0, 494, 0);
        x.in(1, 0, 1, 9999, 21);
        // Back up, and on: SECOND 10000 * 9534 / 100000 = 953.4 wants 954, fee 9.6 wants 10, the house has 2.
        // 8 * 1048576 / 10000 is 838; 10000 * 838 / 1048576 is 7.99.
        BENCH.due("owed", x.stake(0, 8), 3);
        BENCH.due("owed", x.stake(0, 9), 7);
        int had = x.purse(0, 0);
        int hadOther = x.purse(0, 1);
        int held = x.pool(0, 8);
        BENCH.due("pay", x.pay(0), 10);
        BENCH.due("purse", x.purse(0, 0), had + 3);
        BENCH.due("purse", x.purse(0, 1), hadOther + 7);
        BENCH.due("held", x.pool(0, 8), held - 3);
        BENCH.due("owed", x.stake(0, 8) + x.stake(0, 9), 0);
        BENCH.due("again", x.pay(0), 0);
    }

    private static void levying() {
        TickPools x = Bench.made(Bench.PLAIN);
        x.add(1, 0, 19, 21, 0, 10000);
        x.in(1, 0, 0, 494, 0);
        x.in(1, 0, 1, 9999, 21);
        BENCH.due("house", x.pool(0, 10), 1);
        BENCH.due("house", x.pool(0, 11), 2);
        int held = x.pool(0, 9);
        BENCH.due("levy", x.levy(0), 3);
        BENCH.due("purse of person 0", x.purse(0, 0), 100001);
        BENCH.due("purse of person 0", x.purse(0, 1), 100002);
        BENCH.due("held", x.pool(0, 9), held - 2);
        BENCH.due("house", x.pool(0, 10) + x.pool(0, 11), 0);
        BENCH.due("again", x.levy(0), 0);
    }

    private static void dustStaysOver() {
        TickPools x = Bench.made(Bench.PLAIN);
        for (int i = 0; i < 10; i++) {
            x.add(0, 0, 19, 21, 0, 1);
        }
        // Ten times one of each came in, and of all together 0.47 would go out.
        BENCH.due("over", x.pool(0, 12), 10);
        BENCH.due("over", x.pool(0, 13), 10);
        x.take(0, 10);
        BENCH.due("held", x.pool(0, 8), 10);
        BENCH.due("over", x.pool(0, 12), 10);
    }
}
