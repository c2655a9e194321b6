/** Promises 1 to 4: a new object, feed, end, market with its faults. */
public final class TapeTest {
    private static final Bench BENCH = new Bench("TapeTest");

    public static void main(String[] args) {
        newObject();
        feedAndEnd();
        bytesHighestFirst();
        goodMarkets();
        faultsOfPlace();
        faultsOfNumbers();
        faultsOfClauses();
        faultKeepsAll();
        BENCH.finish();
    }

    private static void newObject() {
        TickPools x = new TickPools();
        for (int what = 0; what <= 6; what++) {
            BENCH.due("count " + what + " of a new object", x.count(what), 0);
        }
        BENCH.due("bundle without a market", x.bundle(0), -1);
        BENCH.due("purse", x.purse(0, 0), -1);
        BENCH.due("pool", x.pool(0, 0), -1);
        BENCH.due("depth", x.depth(0, 0), -1);
        BENCH.due("stake", x.stake(0, 0), -1);
        BENCH.due("add", x.add(0, 0, 0, 1, 0, 1), -1);
        BENCH.due("take", x.take(0, 1), -1);
        BENCH.due("pay", x.pay(0), -1);
        BENCH.due("levy", x.levy(0), -1);
        BENCH.due("in", x.in(0, 0, 0, 1, 0), -1);
        BENCH.due("out", x.out(0, 0, 0, 1), -1);
        BENCH.due("passes", x.passes(1), -1);
        BENCH.due("mean", x.mean(0, 1), -1);
        BENCH.due("quoteIn", x.quoteIn(0, 0, 1, 0, 0), -1);
        BENCH.due("quoteOut", x.quoteOut(0, 0, 1, 0), -1);
        BENCH.due("round", x.round(0, 0, 1), -1);
        BENCH.due("least", x.least(0, 0, 0), -1);
        BENCH.due("route", x.route(0, 1, 1, 0), -1);
        BENCH.due("parts", x.parts(0, 1, 1, 0), -1);
        BENCH.due("ring", x.ring(0, 0), -1);
        BENCH.due("total", x.total(0), -1);
        BENCH.due("root", x.root(20), 100000);
    }

    private static void feedAndEnd() {
        TickPools x = new TickPools();
        for (int n = 1; n <= 20; n++) {
            BENCH.due("feed " + n, x.feed(n, -n, Integer.MAX_VALUE, Integer.MIN_VALUE, 0), 20 * n);
        }
        BENCH.due("feed beyond 400", x.feed(0, 0, 0, 0, 0), -1);
        BENCH.due("bytes then", x.count(6), 400);
        BENCH.due("end(401)", x.end(401), -1);
        BENCH.due("end(-1)", x.end(-1), -1);
        BENCH.due("end(least)", x.end(Integer.MIN_VALUE), -1);
        BENCH.due("bytes as before", x.count(6), 400);
        BENCH.due("end(400)", x.end(400), 400);
        BENCH.due("end(381)", x.end(381), 381);
        BENCH.due("feed beyond 400 by one", x.feed(0, 0, 0, 0, 0), -1);
        BENCH.due("end(380)", x.end(380), 380);
        BENCH.due("feed up to 400", x.feed(0, 0, 0, 0, 0), 400);
        BENCH.due("end(0)", x.end(0), 0);
        BENCH.due("end(1) of nothing", x.end(1), -1);
    }

    private static void bytesHighestFirst() {
        TickPools x = new TickPools();
        // "market 3 2" and blanks behind it.
        x.feed(0x6d61726b, 0x65742033, 0x20322020, 0x20202020, 0x20202020);
        BENCH.due("market by numbers", x.market(), 0);
        BENCH.due("things", x.count(0), 3);
        BENCH.due("people", x.count(1), 2);
        BENCH.due("the tape is empty then", x.count(6), 0);
        x.feed(0x80ff0000, 0, 0, 0, 0);
        BENCH.due("a byte of 128", x.market(), Bench.fault(0, 0));
    }

    private static void goodMarkets() {
        TickPools x = new TickPools();
        BENCH.due("no pools", Bench.market(x, "market 2 1"), 0);
        BENCH.due("blanks", Bench.market(x, "  market2   1  ;  pool0 1 0 0 1 1 1 ;purse0 0 5  "), 1);
        BENCH.due("purse", x.purse(0, 0), 5);
        BENCH.due("purse not told", x.purse(0, 1), 0);
        BENCH.due("told again", Bench.market(x, "market 5 4;purse 3 4 9999999;purse 3 4 0000007"), 0);
        BENCH.due("the last counts", x.purse(3, 4), 7);
        StringBuilder text = new StringBuilder("market 3 1");
        for (int i = 0; i < 5; i++) {
            text.append(";pool 1 2 99 100 10 9999 1");
        }
        BENCH.due("five pools", Bench.market(x, text.toString()), 5);
        StringBuilder thirty = new StringBuilder("market 2 1");
        for (int i = 0; i < 29; i++) {
            thirty.append(";purse 0 0 ").append(i);
        }
        BENCH.due("thirty clauses", Bench.market(x, thirty.toString()), 0);
        BENCH.due("the last of them", x.purse(0, 0), 28);
        String one = ";purse 0 1 1";
        int length = thirty.length();
        BENCH.due("thirty-one", Bench.market(x, thirty + one), Bench.fault(length + 1, 2));
        BENCH.due("thirty-one, no word", Bench.market(x, thirty + ";"), Bench.fault(length + 1, 0));
        BENCH.due("thirty-one, no such word", Bench.market(x, thirty + "; zoo"), Bench.fault(length + 2, 0));
    }

    private static void faulty(String text, int place, int kind) {
        TickPools x = new TickPools();
        BENCH.due("market of '" + text + "'", Bench.market(x, text), Bench.fault(place, kind));
        BENCH.due("no market behind '" + text + "'", x.count(0), 0);
        BENCH.due("the tape is empty behind it", x.count(6), 0);
    }

    private static void faultsOfPlace() {
        faulty("", 0, 0);
        faulty("   ", 3, 0);
        faulty("market", 6, 0);
        faulty("market 2", 8, 0);
        faulty("market 2  ", 10, 0);
        faulty("market 2 x", 9, 0);
        faulty("market -2 1", 7, 0);
        faulty("market 2 1;", 11, 0);
        faulty("market 2 1; ", 12, 0);
        faulty("market 2 1;;", 11, 0);
        faulty("market 2 1 1", 11, 0);
        faulty("market 2 1 pool 0 1 0 0 1 1 1", 11, 0);
        faulty("markets 2 1", 0, 0);
        faulty(" Market 2 1", 1, 0);
        faulty("2 1", 0, 0);
        faulty("marketz 2 1", 0, 0);
        faulty("xarket 2 1", 0, 0);
        faulty("market 2 1;xool 0 1 0 0 1 1 1", 11, 0);
        faulty("market\t2 1", 6, 0);
        faulty("market 2 1;pool 0 1 0 0 1 1", 27, 0);
        faulty("market 2 1;pool 0 1 0 0 1 1;", 27, 0);
        faulty("market 2 1;in 0 0 5", 11, 0);
        faulty("market 2 1;purse 0 0 all", 21, 0);
    }

    private static void faultsOfNumbers() {
        faulty("market 1 1", 7, 1);
        faulty("market 6 1", 7, 1);
        faulty("market 2 0", 9, 1);
        faulty("market 2 5", 9, 1);
        faulty("market 00000002 1", 7, 1);
        faulty("market 2 1;purse 0 0 12345678", 21, 1);
        faulty("market 2 1;purse 1 0 1", 17, 1);
        faulty("market 2 1;purse 0 2 1", 19, 1);
        faulty("market 2 1;pool 2 0 0 0 1 1 1", 16, 1);
        faulty("market 2 1;pool 0 2 0 0 1 1 1", 18, 1);
        faulty("market 2 1;pool 0 0 0 0 1 1 1", 18, 1);
        faulty("market 2 1;pool 1   1 0 0 1 1 1", 20, 1);
        faulty("market 2 1;pool 0 1 100 0 1 1 1", 20, 1);
        faulty("market 2 1;pool 0 1 0 101 1 1 1", 22, 1);
        faulty("market 2 1;pool 0 1 0 0 0 1 1", 24, 1);
        faulty("market 2 1;pool 0 1 0 0 11 1 1", 24, 1);
        faulty("market 2 1;pool 0 1 0 0 1 0 1", 26, 1);
        faulty("market 2 1;pool 0 1 0 0 1 10000 1", 26, 1);
        faulty("market 2 1;pool 0 1 0 0 1 1 0", 28, 1);
        faulty("market 2 1;pool 0 1 0 0 1 1 10000", 28, 1);
        // The first along the text counts, whatever stands behind it.
        faulty("market 2 1;purse 9 9 99999999 zoo", 17, 1);
    }

    private static void faultsOfClauses() {
        faulty("pool 0 1 0 0 1 1 1", 0, 2);
        faulty("  purse 0 0 1", 2, 2);
        faulty("market 2 1;market 2 1", 11, 2);
        faulty("market 2 1; market", 12, 2);
        StringBuilder text = new StringBuilder("market 2 1");
        for (int i = 0; i < 5; i++) {
            text.append(";pool 0 1 0 0 1 1 1");
        }
        faulty(text + ";pool 0 1 0 0 1 1 1", text.length() + 1, 2);
        faulty(text + ";pool", text.length() + 1, 2);
        faulty(text + ";pools", text.length() + 1, 0);
    }

    private static void faultKeepsAll() {
        TickPools x = Bench.made("market 2 1;pool 0 1 99 50 1 1 1;purse 0 0 5000;purse 0 1 5000");
        x.add(0, 0, 18, 22, 0, 1000);
        for (int i = 0; i < 10; i++) {
            x.passes(5);
            x.in(0, 0, 0, 50, 0);
            x.in(0, 0, 1, 50, 40);
        }
        // So that nothing of it, nor of a copy that it may have, lasts into the next market.
        x.round(0, 0, 50);
        BENCH.holds("the house has some", x.pool(0, 10) > 0 && x.pool(0, 11) > 0);
        String before = Bench.picture(x);
        BENCH.due("a fault", Bench.market(x, "market 3 2;pool 0 1 0 0 1 1 1;purse 0 0 1;"), Bench.fault(42, 0));
        BENCH.holds("all stays behind a fault", before.equals(Bench.picture(x)));
        BENCH.due("another market", Bench.market(x, "market 3 2;pool 2 0 1 2 3 4 5"), 1);
        BENCH.due("things", x.count(0), 3);
        BENCH.due("no stakes", x.count(3), 0);
        BENCH.due("time 0", x.count(4), 0);
        BENCH.due("nothing crossed", x.count(5), 0);
        BENCH.due("purses anew", x.purse(0, 0), 0);
        BENCH.due("holds nothing", x.pool(0, 8) + x.pool(0, 9) + x.pool(0, 10) + x.pool(0, 11), 0);
        BENCH.due("marks anew", x.mean(0, 1), -2);
        x.passes(3);
        BENCH.due("marks anew", x.mean(0, 3), x.pool(0, 5));
        BENCH.due("marks anew", x.mean(0, 4), -2);
    }
}
