/** Promise 5: bundles, their faults, their fails, and that a bundle is done wholly or not at all. */
public final class BundleTest {
    private static final Bench BENCH = new Bench("BundleTest");

    public static void main(String[] args) {
        withoutThePerson();
        faultsOfPlace();
        faultsOfNumbers();
        fortyOneSteps();
        tooDeep();
        swapsAsByHand();
        got();
        all();
        addAndDrop();
        least();
        stepsThatCannotBe();
        lending();
        lendingLocks();
        loansWithinLoans();
        loanThatCannotGoBack();
        times();
        aHundredSteps();
        nothingRemainsOfAFail();
        BENCH.finish();
    }

    private static void answers(String text, int due) {
        TickPools x = Bench.plain();
        BENCH.due("bundle of '" + text + "'", Bench.bundle(x, 1, text), due);
        BENCH.due("the tape is empty behind '" + text + "'", x.count(6), 0);
        if (due < 0) {
            BENCH.holds("all stays behind '" + text + "'", Bench.picture(Bench.plain()).equals(Bench.picture(x)));
        }
    }

    private static void faulty(String text, int place, int kind) {
        answers(text, Bench.fault(place, kind));
    }

    private static void withoutThePerson() {
        TickPools x = Bench.plain();
        Bench.tell(x, "least 0 0");
        BENCH.due("person 2", x.bundle(2), -1);
        BENCH.due("person -1", x.bundle(-1), -1);
        BENCH.due("the tape stays", x.count(6), 9);
        BENCH.due("person 1", x.bundle(1), 1);
        BENCH.due("the tape is empty", x.count(6), 0);
        TickPools none = new TickPools();
        Bench.tell(none, "least 0 0");
        BENCH.due("without a market", none.bundle(0), -1);
        BENCH.due("the tape stays", none.count(6), 9);
    }

    private static void faultsOfPlace() {
        faulty("", 0, 0);
        faulty("  ", 2, 0);
        faulty("zoo", 0, 0);
        faulty("market 2 1", 0, 0);
        faulty("inz 0 0 5", 0, 0);
        faulty("xn 0 0 5", 0, 0);
        faulty("in 0 0 xll", 7, 0);
        faulty("in", 2, 0);
        faulty("in 0 0", 6, 0);
        faulty("in 0 0 ", 7, 0);
        faulty("in 0 0 some", 7, 0);
        faulty("in 0 0 alls", 7, 0);
        faulty("in 0 0 ;", 7, 0);
        faulty("in 0 all 5", 5, 0);
        faulty("in 0 0 5;", 9, 0);
        faulty("in 0 0 5 5", 9, 0);
        faulty("in 0 0 5]", 8, 0);
        faulty("least 0 all", 8, 0);
        faulty("times 2 least 0 0", 8, 0);
        faulty("times 2", 7, 0);
        faulty("times 2 [", 9, 0);
        faulty("times 2 []", 9, 0);
        faulty("times 2 [least 0 0", 18, 0);
        faulty("times 2 [least 0 0;]", 19, 0);
        faulty("times 2 [least 0 0]]", 19, 0);
        faulty("times 2 [least 0 0] least 0 0", 20, 0);
        faulty("lend 0 1 100 [[", 14, 0);
        faulty("lend 0 1 100", 12, 0);
        faulty("least 0 0 [", 10, 0);
    }

    private static void faultsOfNumbers() {
        faulty("in 5 0 5", 3, 1);
        faulty("in 0 2 5", 5, 1);
        faulty("in 0 0 12345678", 7, 1);
        faulty("out 5 0 5", 4, 1);
        faulty("out 0 2 5", 6, 1);
        faulty("lend 5 0 5[least 0 0]", 5, 1);
        faulty("lend 0 2 5[least 0 0]", 7, 1);
        faulty("add 5 0 1 1", 4, 1);
        faulty("add 0 41 1 1", 6, 1);
        faulty("add 0 0 41 1", 8, 1);
        faulty("add 0 0 1 0", 10, 1);
        faulty("add 0 0 1 100000", 10, 1);
        faulty("drop 5 0 1", 5, 1);
        faulty("drop 0 41 1", 7, 1);
        faulty("drop 0 0 41", 9, 1);
        faulty("least 5 0", 6, 1);
        faulty("least 0 00000000", 8, 1);
        faulty("times 21 [least 0 0]", 6, 1);
        // Faults come ahead of all steps: the first one here would fail.
        faulty("least 0 9999999;in 9 0 0", 19, 1);
    }

    private static void fortyOneSteps() {
        StringBuilder text = new StringBuilder();
        for (int i = 0; i < 40; i++) {
            text.append(i == 0 ? "" : ";").append("in0 0 1");
        }
        answers(text.toString(), 40);
        faulty(text + ";in 0 0 1", text.length() + 1, 2);
        faulty(text + ";in", text.length() + 1, 2);
        faulty(text + ";inn", text.length() + 1, 0);
        faulty(text + "; ", text.length() + 2, 0);
        StringBuilder nested = new StringBuilder("times 0[");
        for (int i = 0; i < 39; i++) {
            nested.append(i == 0 ? "" : ";").append("in0 0 1");
        }
        answers(nested + "]", 1);
        faulty(nested + "];in 0 0 1", nested.length() + 2, 2);
    }

    private static void tooDeep() {
        answers("times 1[times 1[times 1[times 1[least 0 0]]]]", 5);
        answers("times 2[times 2[times 2[times 2[least 0 0]]]]", 2 * (1 + 2 * (1 + 2 * (1 + 2))) + 1);
        answers(" times 1 [ times 1 [ least 0 0 ] ; times 1 [ times 1 [ least 0 0 ] ; least 1 0 ] ] ; least 0 0 ", 8);
        faulty("times 1[times 1[times 1[times 1[times 1[least 0 0]]]]]", 39, 3);
        faulty("times 1[times 1[times 1[times 1[times 1 x", 40, 0);
    }

    private static void swapsAsByHand() {
        TickPools x = Bench.plain();
        TickPools y = Bench.plain();
        BENCH.due("bundle", Bench.bundle(x, 1, "in 0 0 100;out 0 1 50; in 0 1 2000"), 3);
        y.in(1, 0, 0, 100, 0);
        y.out(1, 0, 1, 50);
        y.in(1, 0, 1, 2000, 40);
        BENCH.holds("as by hand", Bench.picture(x).equals(Bench.picture(y)));
        x = Bench.plain();
        x.passes(4);
        Bench.bundle(x, 1, "in 0 0 494");
        x.passes(4);
        // 4 * 18 and 2 * 20 by 6.
        BENCH.due("a swap in a bundle is remembered", x.mean(0, 6), 18);
    }

    private static void got() {
        TickPools x = Bench.plain();
        // 98 come out, and go back.
        BENCH.due("bundle", Bench.bundle(x, 1, "in 0 0 100;in 0 1 got"), 2);
        BENCH.due("purse", x.purse(1, 1), 50000);
        x = Bench.plain();
        BENCH.due("bundle", Bench.bundle(x, 1, "out 0 0 100;in 0 1 got"), 2);
        BENCH.due("purse", x.purse(1, 1), 50000);
        faulty("in 0 0 got", 0, 5);
        faulty("out 0 0 got", 0, 5);
        faulty("lend 0 0 got [least 0 0]", 0, 5);
        // Of an in that gave nothing: 0.
        faulty("in 0 0 100;in 0 0 1;in 0 0 got", 20, 5);
        answers("in 0 0 100;lend 0 1 got[least 0 0];in 0 1 got", 4);
    }

    private static void all() {
        TickPools x = Bench.made("market 2 2;pool 0 1 10 20 1 1 1;purse 0 0 9999;purse 0 1 9999;purse 1 0 100");
        x.add(0, 0, 19, 21, 0, 10000);
        BENCH.due("in all", Bench.bundle(x, 1, "in 0 0 all"), 1);
        BENCH.due("purse", x.purse(1, 0), 0);
        BENCH.due("purse", x.purse(1, 1), 98);
        BENCH.due("all of nothing", Bench.bundle(x, 1, "in 0 0 all"), Bench.fault(0, 5));
        // The pool holds dust, too: all of that can't come out.
        faulty("out 0 0 all", 0, 5);
        answers("lend 0 1 all [least 1 50466]", 2);
        faulty("lend 0 1 all [least 1 50467]", 14, 5);
    }

    private static void addAndDrop() {
        TickPools x = Bench.plain();
        BENCH.due("add", Bench.bundle(x, 1, "add 0 19 21 5000; add 0 19 21 5000"), 2);
        BENCH.due("stakes", x.count(3), 2);
        BENCH.due("person", x.stake(1, 0), 1);
        BENCH.due("auto", x.stake(1, 4), 0);
        BENCH.due("liquidity", x.stake(1, 5), 10000);
        BENCH.due("drop", Bench.bundle(x, 1, "drop 0 19 21"), 1);
        BENCH.due("stakes", x.count(3), 1);
        BENCH.due("the other one's is no own one", Bench.bundle(x, 1, "drop 0 19 21"), Bench.fault(0, 5));
        x.add(1, 0, 19, 21, 1, 5);
        BENCH.due("another auto", Bench.bundle(x, 1, "drop 0 19 21"), Bench.fault(0, 5));
        BENCH.due("his own", Bench.bundle(x, 0, "drop 0 19 21"), 1);
        answers("add 0 19 21 5;drop 0 19 21", 2);
    }

    private static void least() {
        answers("least 0 50000", 1);
        faulty("least 0 50001", 0, 5);
        faulty("least 0 0;least 4 0", 10, 5);
        answers("in 0 0 100;least 0 49900;least 1 50098", 3);
        faulty("in 0 0 100;least 1 50099", 11, 5);
    }

    private static void stepsThatCannotBe() {
        faulty("in 1 0 5", 0, 5);
        faulty("out 1 0 5", 0, 5);
        faulty("add 1 19 21 5", 0, 5);
        faulty("drop 1 19 21", 0, 5);
        faulty("lend 1 0 5 [least 0 0]", 0, 5);
        faulty("in 0 0 0", 0, 5);
        faulty("out 0 0 0", 0, 5);
        faulty("lend 0 0 0 [least 0 0]", 0, 5);
        faulty("in 0 0 50001", 0, 5);
        faulty("out 0 0 466", 0, 5);
        faulty("out 0 0 9999999", 0, 5);
        faulty("add 0 21 19 5", 0, 5);
        faulty("add 0 5 0 5", 0, 5);
        faulty("drop 0 5 0", 0, 5);
        faulty("add 0 21 21 5", 0, 5);
        faulty("add 0 0 1 99999;add 0 0 40 99999", 16, 5);
        faulty("drop 0 19 21", 0, 5);
        faulty("lend 0 0 467 [least 0 0]", 0, 5);
        faulty("  least 0 0 ; in 0 0 0", 14, 5);
        TickPools x = Bench.made("market 2 2;pool 0 1 10 20 2 1 1;purse 0 0 9999;purse 0 1 9999;purse 1 0 103");
        x.add(0, 0, 18, 22, 0, 10000);
        BENCH.due("too poor", Bench.bundle(x, 1, "least 0 0;out 0 0 100"), Bench.fault(10, 5));
        TickPools y = Bench.made("market 2 2;pool 0 1 10 20 2 1 1;purse 0 0 9999;purse 0 1 9999;purse 1 0 104");
        y.add(0, 0, 18, 22, 0, 10000);
        BENCH.due("just enough", Bench.bundle(y, 1, "least 0 0;out 0 0 100"), 2);
        y = Bench.made("market 2 1;pool 0 1 10 20 2 1 1;purse 0 0 9999;purse 0 1 9999");
        y.add(0, 0, 18, 22, 0, 1);
        BENCH.due("any liquidity will do", Bench.bundle(y, 0, "lend 0 0 1 [least 0 0]"), 2);
        BENCH.due("spacing", Bench.bundle(x, 0, "add 0 19 22 1"), Bench.fault(0, 5));
        x.in(0, 0, 0, 9000, 0);
        BENCH.due("it holds some", x.pool(0, 8) > 100 ? 1 : 0, 1);
        BENCH.due("no liquidity there", Bench.bundle(x, 1, "lend 0 0 5[least 0 0]"), Bench.fault(0, 5));
    }

    private static void lending() {
        TickPools x = Bench.plain();
        // Fee of 300: 3; the house has 0 of it; 3 * 1048576 / 10000 is 314, and 2.99 of that is owed.
        BENCH.due("lend", Bench.bundle(x, 1, "lend 0 1 300 [least 1 50300]"), 2);
        BENCH.due("purse", x.purse(1, 1), 50000 - 3);
        BENCH.due("held", x.pool(0, 9), 466 + 3);
        BENCH.due("owed", x.stake(0, 9), 2);
        BENCH.due("house", x.pool(0, 11), 0);
        // Fee of 401: 4.01: 5; the house has 1.
        BENCH.due("lend", Bench.bundle(x, 1, "lend 0 0 401 [least 0 50401]"), 2);
        BENCH.due("house", x.pool(0, 10), 1);
        BENCH.due("owed", x.stake(0, 8), 3);
        BENCH.due("purse", x.purse(1, 0), 50000 - 5);
        BENCH.due("nothing crossed", x.count(5), 0);
    }

    private static void lendingLocks() {
        faulty("lend 0 0 5 [in 0 0 5]", 12, 5);
        faulty("lend 0 0 5 [out 0 0 5]", 12, 5);
        faulty("lend 0 0 5 [add 0 19 21 5]", 12, 5);
        faulty("add 0 19 21 5;lend 0 0 5 [drop 0 19 21]", 26, 5);
        faulty("lend 0 0 5 [lend 0 1 5 [least 0 0]]", 12, 5);
        answers("lend 0 0 1 [least 0 50001]", 2);
        answers("lend 0 0 5 [least 0 0]; in 0 0 5; lend 0 0 5 [least 0 0]", 5);
        answers("times 3 [lend 0 0 5 [least 0 0]]", 7);
    }

    private static void loansWithinLoans() {
        TickPools x = Bench.made("market 3 2;pool 0 1 0 0 1 1 1;pool 0 1 0 0 1 4 5;pool 0 2 0 0 1 1 1"
            + ";purse 0 0 999999;purse 0 1 999999;purse 0 2 999999");
        for (int pool = 0; pool < 3; pool++) {
            x.add(0, pool, 15, 25, 0, 99999);
        }
        // Person 1 has nothing. Pool 0 gives more of the second thing for the first than pool 1 wants back.
        BENCH.due("one who has nothing can't swap", Bench.bundle(x, 1, "in 0 0 1000"), Bench.fault(0, 5));
        BENCH.due("what was lent must go back", Bench.bundle(x, 1, "lend 2 0 1000 [in 0 0 1000]"), Bench.fault(0, 7));
        BENCH.due("a loan is nothing got", Bench.bundle(x, 1, "lend 2 0 1000 [in 0 0 got]"), Bench.fault(15, 5));
        BENCH.due("gain by a loan", Bench.bundle(x, 1,
            "lend 2 0 1000 [in 0 0 1000; in 1 1 got; least 0 1001]"), 4);
        BENCH.holds("he has some now", x.purse(1, 0) > 0);
        BENCH.due("nothing else", x.purse(1, 1) + x.purse(1, 2), 0);
        BENCH.due("total", x.total(0), 999999);
        BENCH.due("three loans at once", Bench.bundle(x, 1,
            "lend 0 0 10 [lend 1 1 20 [lend 2 0 30 [least 1 20]]]"), 4);
    }

    private static void loanThatCannotGoBack() {
        TickPools x = Bench.made("market 2 2;pool 0 1 10 20 1 1 1;purse 0 0 9999;purse 0 1 9999;purse 1 0 1");
        x.add(0, 0, 19, 21, 0, 10000);
        String before = Bench.picture(x);
        BENCH.due("fee too dear", Bench.bundle(x, 1, "least 0 0; lend 0 0 101 [least 0 102]"), Bench.fault(11, 7));
        BENCH.due("at its lend, not at what is in it", Bench.bundle(x, 1,
            "times 1 [ lend 0 1 50 [ least 0 0 ] ]"), Bench.fault(10, 7));
        BENCH.holds("all stays", before.equals(Bench.picture(x)));
        BENCH.due("just enough", Bench.bundle(x, 1, "lend 0 0 100 [least 0 101]"), 2);
        BENCH.due("purse", x.purse(1, 0), 0);
    }

    private static void times() {
        answers("times 0 [in 0 0 0]", 1);
        answers("times 0 [in 0 0 0];least 0 0", 2);
        answers("times 20 [least 0 0]", 21);
        answers("times 2 [times 3 [least 0 0]; least 1 0]", 1 + 2 * (1 + 3 + 1));
        TickPools x = Bench.plain();
        TickPools y = Bench.plain();
        Bench.bundle(x, 1, "times 3 [in 0 0 10]");
        for (int i = 0; i < 3; i++) {
            y.in(1, 0, 0, 10, 0);
        }
        BENCH.holds("three times", Bench.picture(x).equals(Bench.picture(y)));
    }

    private static void aHundredSteps() {
        // 1 and 4 * (1 and 20) are 85; 1 and 14 more are 100.
        answers("times 4 [times 20 [least 0 0]]; times 14 [least 0 0]", 100);
        faulty("times 4 [times 20 [least 0 0]]; times 15 [least 0 0]", 42, 6);
        faulty("times 20 [times 20 [least 0 0]]", 20, 6);
        faulty("times 4 [times 20 [least 0 0]]; times 14 [least 0 0];in 0 0 0", 53, 6);
        faulty("times 4 [times 20 [least 0 0]]; times 14 [least 0 0];times 0 [least 0 0]", 53, 6);
        faulty("times 4 [times 20 [least 0 0]]; times 14 [least 0 0];lend 0 0 1 [least 0 0]", 53, 6);
    }

    private static void nothingRemainsOfAFail() {
        TickPools x = Bench.plain();
        x.add(1, 0, 18, 20, 1, 777);
        x.add(0, 0, 18, 22, 2, 7770);
        x.passes(7);
        x.in(1, 0, 0, 5, 0);
        x.passes(7);
        String before = Bench.picture(x);
        BENCH.due("fails at last", Bench.bundle(x, 1, "add 0 10 30 50;in 0 0 3000;out 0 1 40;"
            + "lend 0 0 10 [least 0 0];drop 0 10 30;in 0 1 9000;times 3 [in 0 0 50];least 0 9999999"),
            Bench.fault(107, 5));
        BENCH.holds("all stays", before.equals(Bench.picture(x)));
        BENCH.holds("and can be done again", Bench.bundle(x, 1, "add 0 10 30 50;in 0 0 3000") == 2);
    }
}
