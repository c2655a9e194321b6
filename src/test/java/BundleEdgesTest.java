/** Promise 5, edge by edge: each bound of a bundle's text, each way in which a step can't be, wholly or not at all. */
public final class BundleEdgesTest {
    private static final Bench BENCH = new Bench("BundleEdgesTest");
    private static final String TWO_POOLS = "market 3 2;pool 0 1 10 20 1 1 1;pool 1 2 10 20 1 1 1"
        + ";purse 0 0 100000;purse 0 1 100000;purse 0 2 100000;purse 1 0 50000;purse 1 1 50000;purse 1 2 50000";

    public static void main(String[] args) {
        withoutThatPerson();
        emptyText();
        textOfFourHundredBytes();
        signsNextToDigitsAndLetters();
        wordsThatGoOn();
        sevenDigits();
        numbersThatWouldWrapAround();
        numbersAtTheirBounds();
        muchInEachForm();
        bracketsThatAreMissing();
        fortySteps();
        fourDeep();
        faultsComeAheadOfAllSteps();
        leastFaultOfOnePlace();
        amountsOfNone();
        allOfMoreThanAnAmount();
        inUpToThePurse();
        outUpToThePurse();
        outUpToWhatComesOut();
        whatIsNotThere();
        addAtItsBounds();
        dropOfOwnStakesAlone();
        leastAtItsBounds();
        lendUpToWhatIsHeld();
        lendWithoutLiquidity();
        lendWithFeesAtTheirBounds();
        lockedAsLongAsItsSteps();
        lockedAgainAndAgain();
        locksOfOneBundleAlone();
        goingBackAtItsBounds();
        gotAtItsBounds();
        gotOfOneBundleAlone();
        timesAtItsBounds();
        hundredSteps();
        firstFailIsTold();
        whollyOrNotAtAll();
        owedComesBackBehindAFail();
        faultLeavesNoBracketOpen();
        swapsGoToTheirEnds();
        BENCH.finish();
    }

    private static TickPools twoPools() {
        TickPools x = Bench.made(TWO_POOLS);
        x.add(0, 0, 15, 25, 0, 10000);
        x.add(0, 1, 15, 25, 0, 10000);
        return x;
    }

    private static void answers(TickPools x, String text, int due) {
        String before = Bench.picture(x);
        BENCH.due("bundle of '" + text + "'", Bench.bundle(x, 1, text), due);
        BENCH.due("the tape is empty behind '" + text + "'", x.count(6), 0);
        if (due < 0) {
            BENCH.holds("all stays behind '" + text + "'", before.equals(Bench.picture(x)));
        }
    }

    private static void done(String text, int steps) {
        answers(Bench.plain(), text, steps);
    }

    private static void faulty(String text, int place, int kind) {
        answers(Bench.plain(), text, Bench.fault(place, kind));
    }

    private static String repeated(String step, int times) {
        StringBuilder all = new StringBuilder(step);
        for (int i = 1; i < times; i++) {
            all.append(';').append(step);
        }
        return all.toString();
    }

    private static void withoutThatPerson() {
        TickPools x = Bench.plain();
        String before = Bench.picture(x);
        Bench.tell(x, "in 0 0 5;zoo");
        int[] nobody = {2, -1, 4, Integer.MIN_VALUE, Integer.MAX_VALUE};
        for (int person : nobody) {
            BENCH.due("person " + person, x.bundle(person), -1);
            BENCH.due("the TAPE stays", x.count(6), 12);
        }
        BENCH.holds("nothing has happened", before.equals(Bench.picture(x)));
        x.end(8);
        BENCH.due("what stayed can be done", x.bundle(1), 1);
        BENCH.due("and the TAPE is empty", x.count(6), 0);
        BENCH.due("the purse of that one", x.purse(1, 0), 49995);
    }

    private static void emptyText() {
        faulty("", 0, 0);
        faulty(Bench.padded("", 400), 400, 0);
        TickPools x = Bench.plain();
        BENCH.due("nothing fed", x.bundle(0), -3);
    }

    private static void textOfFourHundredBytes() {
        done(Bench.padded("least 0 0", 400), 1);
        done(Bench.padded("", 391) + "least 0 0", 1);
        done(Bench.padded("times 1 [ least 0 0 ", 399) + "]", 2);
        faulty(Bench.padded("least 0 0", 399) + ";", 400, 0);
        faulty(Bench.padded("least 0 0", 399) + "]", 399, 0);
        faulty(Bench.padded("times 1 [ least 0 0 ", 400), 400, 0);
        answers(Bench.plain(), Bench.padded("least 0 0;", 392) + "in 9 0 0", Bench.fault(395, 1));
        answers(Bench.plain(), Bench.padded("least 0 0;", 392) + "in 0 0 0", Bench.fault(392, 5));
    }

    private static void signsNextToDigitsAndLetters() {
        int[] odd = {0, 9, 10, 31, 33, 47, 58, 92, 94, 96, 123, 125, 127, 128, 160, 255};
        for (int sign : odd) {
            char c = (char) sign;
            faulty(c + "in 0 0 5", 0, 0);
            faulty("in" + c + "0 0 5", 2, 0);
            faulty("in 0" + c + "0 5", 4, 0);
            faulty("in 0 0 5" + c, 8, 0);
            faulty("in 0 0 " + c + "5", 7, 0);
            faulty("times 2 " + c + "[least 0 0]", 8, 0);
            faulty("times 2 [" + c + "least 0 0]", 9, 0);
            faulty("times 2 [least 0 0" + c + "]", 18, 0);
            faulty("times 2 [least 0 0]" + c, 19, 0);
        }
    }

    private static void wordsThatGoOn() {
        String[] words = {"in", "out", "add", "drop", "least", "lend", "times"};
        for (String word : words) {
            faulty(word, word.length(), 0);
            faulty(word + "a 0 0 5", 0, 0);
            faulty(word + "z 0 0 5", 0, 0);
            faulty(word.substring(0, word.length() - 1) + " 0 0 5", 0, 0);
            faulty(word.toUpperCase() + " 0 0 5", 0, 0);
            faulty("  " + word + word, 2, 0);
        }
        faulty("all", 0, 0);
        faulty("got", 0, 0);
        faulty("pool 0 1 0 0 1 1 1", 0, 0);
        faulty("in 0 0 alla", 7, 0);
        faulty("in 0 0 al", 7, 0);
        faulty("in 0 0 gotz", 7, 0);
        faulty("in 0 0 go", 7, 0);
        faulty("in 0 0 in", 7, 0);
        faulty("in 0 0 all5", 10, 0);
        done("in0 0all", 1);
        done("times1[least0 0]", 2);
    }

    private static void sevenDigits() {
        done("in 0000000 0000000 0000005", 1);
        faulty("in 00000000 0 5", 3, 1);
        faulty("in 0 00000000 5", 5, 1);
        faulty("in 0 0 00000005", 7, 1);
        faulty("out 0 0 00000005", 8, 1);
        faulty("lend 0 0 00000005 [least 0 0]", 9, 1);
        faulty("add 0 00000019 21 5", 6, 1);
        faulty("add 0 19 00000021 5", 9, 1);
        faulty("add 0 19 21 00000005", 12, 1);
        faulty("drop 0 00000019 21", 7, 1);
        faulty("least 0 10000000", 8, 1);
        faulty("times 00000001 [least 0 0]", 6, 1);
    }

    private static void numbersThatWouldWrapAround() {
        faulty("in 4294967296 0 5", 3, 1);
        faulty("in 0 0 4294967301", 7, 1);
        faulty("in 0 0 18446744073709551621", 7, 1);
        faulty("times 4294967297 [least 0 0]", 6, 1);
        faulty("add 0 19 21 4294967301", 12, 1);
    }

    private static void numbersAtTheirBounds() {
        // What can be told, if it can't be, is a FAIL: 5; what can't be told is a FAULT: 1.
        faulty("in 4 0 5", 0, 5);
        faulty("in 5 0 5", 3, 1);
        done("in 0 1 5", 1);
        faulty("in 0 2 5", 5, 1);
        faulty("in 0 0 9999999", 0, 5);
        faulty("in 0 0 10000000", 7, 1);
        faulty("out 4 1 5", 0, 5);
        faulty("out 5 1 5", 4, 1);
        faulty("out 0 2 5", 6, 1);
        faulty("lend 4 1 5 [least 0 0]", 0, 5);
        faulty("lend 5 1 5 [least 0 0]", 5, 1);
        faulty("lend 0 2 5 [least 0 0]", 7, 1);
        done("add 0 0 40 1", 1);
        faulty("add 4 0 40 1", 0, 5);
        faulty("add 5 0 40 1", 4, 1);
        faulty("add 0 41 40 1", 6, 1);
        faulty("add 0 0 41 1", 8, 1);
        faulty("add 0 0 40 0", 11, 1);
        done("add 0 20 21 99999", 1);
        faulty("add 0 0 40 100000", 11, 1);
        faulty("drop 4 0 40", 0, 5);
        faulty("drop 5 0 40", 5, 1);
        faulty("drop 0 41 40", 7, 1);
        faulty("drop 0 0 41", 9, 1);
        faulty("drop 0 40 0", 0, 5);
        faulty("least 4 0", 0, 5);
        faulty("least 5 0", 6, 1);
        faulty("least 0 9999999", 0, 5);
        done("times 0 [least 0 0]", 1);
        done("times 20 [least 0 0]", 21);
        faulty("times 21 [least 0 0]", 6, 1);
    }

    private static void muchInEachForm() {
        done("in 0 0 all", 1);
        done("out 0 0 5;out 0 0 got", 2);
        done("in 0 0 5;lend 0 1 got [least 0 0]", 3);
        faulty("add 0 0 40 all", 11, 0);
        faulty("least 0 got", 8, 0);
        faulty("times all [least 0 0]", 6, 0);
        faulty("in 0 0 -5", 7, 0);
        faulty("in 0 0 [", 7, 0);
        faulty("in 0 0 ]", 7, 0);
        faulty("in 0 0 5 all", 9, 0);
        faulty("in all", 3, 0);
        faulty("in 0", 4, 0);
        faulty("in 0 0", 6, 0);
    }

    private static void bracketsThatAreMissing() {
        faulty("lend 0 0 5", 10, 0);
        faulty("lend 0 0 5  ", 12, 0);
        faulty("lend 0 0 5 ]", 11, 0);
        faulty("lend 0 0 5;least 0 0", 10, 0);
        faulty("times 1 ;", 8, 0);
        faulty("times 1 []", 9, 0);
        faulty("times 1 [ ]", 10, 0);
        faulty("times 1 [[", 9, 0);
        faulty("times 1 [;least 0 0]", 9, 0);
        faulty("times 1 [least 0 0;]", 19, 0);
        faulty("times 1 [least 0 0", 18, 0);
        faulty("times 1 [least 0 0;", 19, 0);
        faulty("times 1 [least 0 0]]", 19, 0);
        faulty("times 1 [least 0 0];", 20, 0);
        faulty("times 1 [least 0 0] [", 20, 0);
        faulty("times 1 [times 1 [least 0 0]", 28, 0);
        faulty("least 0 0]", 9, 0);
        faulty("least 0 0[", 9, 0);
        faulty("]", 0, 0);
        faulty("[least 0 0]", 0, 0);
        faulty(";", 0, 0);
        done(" times 1 [ least 0 0 ] ", 2);
    }

    private static void fortySteps() {
        done(repeated("in0 0 1", 40), 40);
        String all = repeated("in0 0 1", 40);
        faulty(all + ";in0 0 1", all.length() + 1, 2);
        faulty(all + ";  times", all.length() + 3, 2);
        faulty(all + ";lend 9 9 9", all.length() + 1, 2);
        faulty(all + ";all", all.length() + 1, 0);
        faulty(all + ";1", all.length() + 1, 0);
        faulty(all + ";", all.length() + 1, 0);
        faulty(all + "]", all.length(), 0);
        // Steps in brackets count as they are told, not as they are done.
        String inner = "times 2[" + repeated("in0 0 1", 39);
        done(inner + "]", 79);
        faulty(inner + ";in0 0 1]", inner.length() + 1, 2);
        faulty(inner + "];in0 0 1", inner.length() + 2, 2);
        String none = "times 0[" + repeated("in0 0 1", 39);
        done(none + "]", 1);
        faulty(none + ";in0 0 1]", none.length() + 1, 2);
        String deep = "times 1[" + repeated("in0 0 1", 38) + ";";
        done(deep + "in0 0 1]", 40);
        faulty(deep + "times 1[in0 0 1]]", deep.length() + 8, 2);
        faulty(deep + "times 1[]]", deep.length() + 8, 0);
    }

    private static void fourDeep() {
        done("times 1[times 1[times 1[times 1[least 0 0]]]]", 5);
        faulty("times 1[times 1[times 1[times 1[times 1[least 0 0]]]]]", 39, 3);
        faulty("times 1[times 1[times 1[times 1[times 1  [", 41, 3);
        faulty("times 1[times 1[times 1[times 1[lend 0 0 5[zoo", 42, 3);
        faulty("times 1[times 1[times 1[times 1[times 1", 39, 0);
        faulty("times 1[times 1[times 1[times 1[times 1]", 39, 0);
        faulty("times 1[times 1[times 1[times 1[times 21[", 38, 1);
        // One behind the other there may be more.
        done("times 1[times 1[times 1[times 1[least 0 0];times 1[least 0 0]]]];times 1[times 1[least 0 0]]", 10);
        String text = "times 1[times 1[times 1[times 1[least 0 0]];times 1[times 1[times 1[least 0 0]]]]]";
        faulty(text, text.indexOf("[least 0 0]]]]"), 3);
        answers(twoPools(), "lend 0 0 5[times 1[lend 1 0 5[times 1[least 0 0]]]]", 5);
    }

    private static void faultsComeAheadOfAllSteps() {
        faulty("in 0 0 0;zoo", 9, 0);
        faulty("in 9 0 0;zoo", 3, 1);
        faulty("in 0 0 0;in 0 0", 15, 0);
        faulty("times 20[times 20[least 0 0]];in 0 0 0;in 7", 42, 1);
        TickPools x = Bench.plain();
        x.passes(5);
        answers(x, "in 0 0 50;in 0 0 50]", Bench.fault(19, 0));
    }

    private static void leastFaultOfOnePlace() {
        String all = repeated("in0 0 1", 40);
        faulty(all + ";inn 0 0 1", all.length() + 1, 0);
        faulty("times 1[times 1[times 1[times 1[times 1 7[", 40, 0);
    }

    private static void amountsOfNone() {
        faulty("in 0 0 0", 0, 5);
        faulty("in 0 1 0", 0, 5);
        faulty("out 0 0 0", 0, 5);
        faulty("out 0 1 0", 0, 5);
        faulty("lend 0 0 0 [least 0 0]", 0, 5);
        faulty("lend 0 1 0 [least 0 0]", 0, 5);
        faulty("in 0 0 got", 0, 5);
        faulty("out 0 0 got", 0, 5);
        faulty("lend 0 0 got [least 0 0]", 0, 5);
        // Behind the first one nothing is left of the 100.
        TickPools poor = Bench.made("market 2 2;pool 0 1 10 20 1 1 1;purse 0 0 9000;purse 0 1 9000;purse 1 0 100");
        poor.add(0, 0, 19, 21, 0, 10000);
        answers(poor, "in 0 0 all;in 0 0 all", Bench.fault(11, 5));
        answers(poor, "in 0 0 all", 1);
        // A pool that holds nothing, and a stake that is all of the other thing.
        TickPools x = Bench.made(Bench.PLAIN);
        answers(x, "out 0 0 all", Bench.fault(0, 5));
        answers(x, "lend 0 0 all [least 0 0]", Bench.fault(0, 5));
        x.add(0, 0, 20, 21, 0, 10000);
        answers(x, "lend 0 1 all [least 0 0]", Bench.fault(0, 5));
        answers(x, "lend 0 0 all [least 0 0]", 2);
        done("in 0 0 1;out 0 0 1;lend 0 0 1 [least 0 0]", 4);
    }

    /** A market in which pool 0 holds 10488950 of thing 1 at tick 40, and person 0 has more than 9999999 of thing 0. */
    private static TickPools rich() {
        TickPools x = Bench.made("market 3 4;pool 0 1 0 0 1 9999 1;pool 0 2 0 0 1 1 9999;purse 0 0 9999999"
            + ";purse 1 1 9999999;purse 2 1 9999999;purse 3 0 9999999;purse 0 2 9999999");
        for (int i = 0; i < 10; i++) {
            // 95000 * 220820 / 100000 is 209779 wholly: no dust.
            x.add(1, 0, 0, 40, 0, 95000);
            x.add(1, 0, 0, 40, 1, 95000);
            x.add(1, 0, 0, 40, 2, 95000);
            x.add(2, 0, 0, 40, 0, 95000);
            x.add(2, 0, 0, 40, 1, 95000);
            x.add(3, 1, 0, 40, 0, 99999);
        }
        x.in(0, 1, 1, 9999999, 40);
        return x;
    }

    private static void allOfMoreThanAnAmount() {
        TickPools x = rich();
        BENCH.due("it holds more than an AMOUNT", x.pool(0, 9), 10488950);
        BENCH.due("what it would want", x.quoteOut(0, 0, 9999999, 0) > 0 ? 1 : 0, 1);
        int purse = x.purse(0, 0);
        BENCH.holds("a purse of more, too", purse > 12000000);
        BENCH.due("by hand", x.out(0, 0, 0, 10488950), -1);
        String before = Bench.picture(x);
        BENCH.due("so not as a STEP", Bench.bundle(x, 0, "out 0 0 all"), Bench.fault(0, 5));
        BENCH.holds("all stays", before.equals(Bench.picture(x)));
        // In and lend have no such bound.
        BENCH.due("lend all", Bench.bundle(x, 0, "lend 0 1 all [least 0 0]"), 2);
        BENCH.due("in all", Bench.bundle(x, 0, "in 0 0 all"), 1);
        BENCH.due("all that there is below", x.purse(0, 1), 10488950);
        // FIRST of 4750000 between all the roots: 4750000 * 100000 * 220820 / (38554 * 259374) is 10489049.4.
        BENCH.due("what was wanted", purse - x.purse(0, 0), 10489050);
        BENCH.due("at tick 0", x.pool(0, 6), 38554);
    }

    private static void inUpToThePurse() {
        done("in 0 0 50000", 1);
        faulty("in 0 0 50001", 0, 5);
        done("in 0 0 1", 1);
        TickPools x = Bench.plain();
        x.passes(2);
        // Up to tick 21 it takes 493, and no more above that.
        answers(x, "in 0 1 9999;in 0 1 49508", Bench.fault(12, 5));
        answers(x, "in 0 1 9999;in 0 1 49507", 2);
    }

    private static void outUpToThePurse() {
        // 100 of it want 104.
        for (int purse = 103; purse <= 104; purse++) {
            TickPools x = Bench.made("market 2 2;pool 0 1 10 20 1 1 1;purse 0 0 9000;purse 0 1 9000;purse 1 0 " + purse);
            x.add(0, 0, 19, 21, 0, 10000);
            answers(x, "out 0 0 100", purse == 104 ? 1 : Bench.fault(0, 5));
        }
    }

    private static void outUpToWhatComesOut() {
        done("out 0 0 465", 1);
        faulty("out 0 0 466", 0, 5);
        done("out 0 1 465", 1);
        faulty("out 0 1 466", 0, 5);
        faulty("out 0 0 9999999", 0, 5);
        done("out 0 0 1", 1);
    }

    private static void whatIsNotThere() {
        for (int pool = 1; pool <= 4; pool++) {
            faulty("in " + pool + " 0 5", 0, 5);
            faulty("out " + pool + " 0 5", 0, 5);
            faulty("add " + pool + " 19 21 5", 0, 5);
            faulty("drop " + pool + " 19 21", 0, 5);
            faulty("lend " + pool + " 0 5 [least 0 0]", 0, 5);
        }
        for (int thing = 2; thing <= 4; thing++) {
            faulty("least " + thing + " 0", 0, 5);
        }
        answers(twoPools(), "in 1 0 5;least 2 0", 2);
        answers(twoPools(), "in 2 0 5", Bench.fault(0, 5));
        answers(twoPools(), "least 3 0", Bench.fault(0, 5));
    }

    private static void addAtItsBounds() {
        faulty("add 0 20 20 5", 0, 5);
        faulty("add 0 21 20 5", 0, 5);
        TickPools x = Bench.made("market 2 2;pool 0 1 0 0 10 1 1;purse 1 0 100;purse 1 1 100");
        answers(x, "add 0 0 40 1", 1);
        answers(x, "add 0 5 40 1", Bench.fault(0, 5));
        answers(x, "add 0 0 39 1", Bench.fault(0, 5));
        // 215 of 20 to 30: FIRST 81.3; of 10 to 20: SECOND 81.5 wants 82. It has 98 of each then.
        answers(x, "add 0 20 30 259", 1);
        BENCH.due("purse", x.purse(1, 0), 0);
        answers(x, "add 0 20 30 1", Bench.fault(0, 5));
        x = Bench.made(Bench.PLAIN);
        for (int i = 0; i < 11; i++) {
            x.add(0, 0, i, 40, 1, 1);
        }
        answers(x, "add 0 19 21 5;add 0 18 21 5", Bench.fault(14, 5));
        answers(x, "add 0 19 21 5;add 0 19 21 5", 2);
        BENCH.due("twelve", x.count(3), 12);
        BENCH.due("one of them", x.stake(11, 5), 10);
        // Eleven times at most is more than 999999.
        x = Bench.made("market 2 2;pool 0 1 0 0 1 1 1;purse 1 0 9999999;purse 1 1 9999999");
        answers(x, "times 10 [add 0 19 21 99999]; add 0 19 21 10", Bench.fault(30, 5));
        answers(x, "times 10 [add 0 19 21 99999]; add 0 19 21 9", 12);
        BENCH.due("just so much", x.stake(0, 5), 999999);
    }

    private static void dropOfOwnStakesAlone() {
        TickPools x = Bench.plain();
        answers(x, "drop 0 19 21", Bench.fault(0, 5));
        x.add(1, 0, 19, 21, 1, 5);
        x.add(1, 0, 19, 21, 2, 5);
        answers(x, "drop 0 19 21", Bench.fault(0, 5));
        x.add(1, 0, 19, 22, 0, 5);
        x.add(1, 0, 18, 21, 0, 5);
        answers(x, "drop 0 19 21", Bench.fault(0, 5));
        x.add(1, 0, 19, 21, 0, 1);
        answers(x, "drop 0 19 21;drop 0 19 21", Bench.fault(13, 5));
        answers(x, "drop 0 19 21", 1);
        BENCH.due("the others stay", x.count(3), 5);
        // Wholly, and what is owed with it.
        x = Bench.made(Bench.PLAIN);
        x.add(1, 0, 19, 21, 0, 10000);
        x.in(0, 0, 0, 494, 0);
        int had = x.purse(1, 0);
        answers(x, "drop 0 19 21", 1);
        BENCH.due("953 and 3", x.purse(1, 0), had + 956);
    }

    private static void leastAtItsBounds() {
        done("least 0 50000", 1);
        faulty("least 0 50001", 0, 5);
        done("least 1 0", 1);
        TickPools x = Bench.made("market 2 2;purse 0 0 5");
        answers(x, "least 0 0", 1);
        answers(x, "least 0 1", Bench.fault(0, 5));
        done("in 0 0 all;least 0 0", 2);
        faulty("in 0 0 494;least 0 49507", 11, 5);
        done("in 0 0 494;least 0 49506;least 1 50465", 3);
    }

    private static void lendUpToWhatIsHeld() {
        done("lend 0 0 466 [least 0 50466]", 2);
        faulty("lend 0 0 467 [least 0 0]", 0, 5);
        done("lend 0 0 all [least 0 50466]", 2);
        faulty("lend 0 0 all [least 0 50467]", 14, 5);
        // What the house and the stakes have of it can be lent, too.
        TickPools x = Bench.plain();
        x.in(1, 0, 0, 100, 0);
        x.in(1, 0, 0, 300, 0);
        BENCH.due("it holds", x.pool(0, 8), 866);
        answers(x, "lend 0 0 866 [least 0 0]", 2);
        answers(x, "lend 0 0 876 [least 0 0]", Bench.fault(0, 5));
    }

    private static void lendWithoutLiquidity() {
        TickPools x = Bench.made(Bench.PLAIN);
        answers(x, "lend 0 0 1 [least 0 0]", Bench.fault(0, 5));
        x.add(0, 0, 21, 25, 0, 5000);
        x.add(0, 0, 10, 20, 0, 5000);
        BENCH.holds("it holds some of both", x.pool(0, 8) > 99 && x.pool(0, 9) > 99);
        answers(x, "lend 0 0 1 [least 0 0]", Bench.fault(0, 5));
        answers(x, "lend 0 1 1 [least 0 0]", Bench.fault(0, 5));
        x.add(0, 0, 20, 21, 0, 1);
        answers(x, "lend 0 0 1 [least 0 0]", 2);
    }

    private static void lendWithFeesAtTheirBounds() {
        int[] amounts = {1, 99, 100, 101, 200, 201, 466};
        int[] fees = {1, 1, 1, 2, 2, 3, 5};
        for (int i = 0; i < amounts.length; i++) {
            TickPools x = Bench.plain();
            answers(x, "lend 0 0 " + amounts[i] + " [least 0 0]", 2);
            BENCH.due("fee of " + amounts[i], 50000 - x.purse(1, 0), fees[i]);
            BENCH.due("the pool has it", x.pool(0, 8), 466 + fees[i]);
            BENCH.due("the house has a fifth, downwards", x.pool(0, 10), fees[i] / 5);
        }
        TickPools x = Bench.made("market 2 2;pool 0 1 0 100 1 1 1;purse 0 0 9999;purse 0 1 9999");
        x.add(0, 0, 19, 21, 0, 10000);
        answers(x, "lend 0 0 466 [least 0 466]", 2);
        BENCH.due("no fee", x.pool(0, 8), 466);
        x = Bench.made("market 2 2;pool 0 1 99 100 1 1 1;purse 0 0 9999;purse 0 1 9999;purse 1 0 47");
        x.add(0, 0, 19, 21, 0, 10000);
        answers(x, "lend 0 0 466 [least 0 513]", 2);
        BENCH.due("46.1: 47, all the house's", x.pool(0, 10), 47);
        BENCH.due("nothing is owed", x.stake(0, 8), 0);
    }

    private static void lockedAsLongAsItsSteps() {
        String[] steps = {"in 0 0 5", "in 0 1 5", "out 0 0 5", "out 0 1 5", "add 0 19 21 5", "lend 0 0 5 [least 0 0]",
            "lend 0 1 5 [least 0 0]"};
        for (String step : steps) {
            faulty("lend 0 0 5 [" + step + "]", 12, 5);
            faulty("lend 0 1 5 [least 0 0;" + step + "]", 22, 5);
            faulty("lend 0 0 5 [times 1 [" + step + "]]", 21, 5);
            done("lend 0 0 5 [least 0 0];" + step, step.startsWith("lend") ? 4 : 3);
            // Of another pool all that can be.
            answers(twoPools(), "lend 1 0 5 [" + step + "]", step.startsWith("lend") ? 3 : 2);
        }
        TickPools x = Bench.plain();
        x.add(1, 0, 19, 21, 0, 50);
        answers(x, "lend 0 0 5 [drop 0 19 21]", Bench.fault(12, 5));
        answers(x, "lend 0 0 5 [least 0 0];drop 0 19 21", 3);
    }

    private static void lockedAgainAndAgain() {
        done("times 3 [lend 0 0 5 [least 0 0]; in 0 0 5]", 10);
        // What is lent within is free again ahead of what is lent around it.
        answers(twoPools(), "lend 0 0 5 [lend 1 0 5 [least 0 0]; in 1 0 5; in 0 0 5]", Bench.fault(46, 5));
        answers(twoPools(), "lend 0 0 5 [lend 1 0 5 [least 0 0]; in 1 0 5]; in 0 0 5", 5);
        answers(twoPools(), "lend 0 0 5 [lend 1 0 5 [in 0 0 5]]", Bench.fault(24, 5));
        answers(twoPools(), "lend 0 0 5 [lend 1 0 5 [in 1 0 5]]", Bench.fault(24, 5));
    }

    private static void locksOfOneBundleAlone() {
        TickPools x = Bench.plain();
        answers(x, "lend 0 0 5 [least 0 9999999]", Bench.fault(12, 5));
        answers(x, "in 0 0 5;lend 0 0 5 [least 0 0]", 3);
        BENCH.due("by hand, too", x.in(1, 0, 0, 5, 0), 3);
    }

    private static void goingBackAtItsBounds() {
        // 466 and a fee of 5: the lender's borrower has 4 or 5 of his own.
        for (int purse = 4; purse <= 5; purse++) {
            TickPools x = Bench.made("market 2 2;pool 0 1 10 20 1 1 1;purse 0 0 9000;purse 0 1 9000;purse 1 0 " + purse);
            x.add(0, 0, 19, 21, 0, 10000);
            answers(x, "least 0 0; lend 0 0 all [least 0 0]; least 0 0", purse == 5 ? 4 : Bench.fault(11, 7));
        }
        // At its lend, and the inner one first, as it goes back first.
        TickPools x = Bench.made("market 3 2;pool 0 1 10 20 1 1 1;pool 1 2 10 20 1 1 1;purse 0 0 9000;purse 0 1 9000"
            + ";purse 0 2 9000");
        x.add(0, 0, 15, 25, 0, 10000);
        x.add(0, 1, 15, 25, 0, 10000);
        answers(x, "lend 0 0 5 [lend 1 0 5 [least 0 0]]", Bench.fault(12, 7));
        answers(x, "lend 0 0 5 [least 0 5]", Bench.fault(0, 7));
        answers(x, "times 2 [lend 0 0 5 [least 0 5]]", Bench.fault(9, 7));
    }

    private static void gotAtItsBounds() {
        done("in 0 0 100;in 0 1 got;least 0 49997", 3);
        // What came out by out is what was told; what came out last counts.
        TickPools x = Bench.plain();
        answers(x, "in 0 0 100;out 0 1 50;in 0 0 got", 3);
        TickPools y = Bench.plain();
        y.in(1, 0, 0, 100, 0);
        y.out(1, 0, 1, 50);
        y.in(1, 0, 0, 50, 0);
        BENCH.holds("50 of it", Bench.picture(x).equals(Bench.picture(y)));
        // 0 came out by the last one.
        faulty("in 0 0 100;in 0 0 1;out 0 0 got", 20, 5);
        done("in 0 0 100;in 0 0 1;least 0 0", 3);
        // Add, drop, lend, least and times are no in or out.
        done("in 0 0 100;add 0 19 21 5;drop 0 19 21;lend 0 0 1 [times 1 [least 0 0]];in 0 1 got", 7);
        faulty("times 0 [in 0 0 100];in 0 1 got", 21, 5);
        done("times 1 [in 0 0 100];in 0 1 got", 3);
        faulty("lend 0 0 100 [least 0 0];in 0 0 got", 25, 5);
    }

    private static void gotOfOneBundleAlone() {
        TickPools x = Bench.plain();
        answers(x, "in 0 0 100", 1);
        answers(x, "in 0 1 got", Bench.fault(0, 5));
        x.in(1, 0, 0, 100, 0);
        answers(x, "in 0 1 got", Bench.fault(0, 5));
        answers(x, "in 0 0 100;least 0 9999999", Bench.fault(11, 5));
        answers(x, "in 0 1 got", Bench.fault(0, 5));
    }

    private static void timesAtItsBounds() {
        done("times 0 [in 0 0 0]", 1);
        done("times 0 [times 20 [in 0 0 0]; zoo 0 0]".replace("zoo", "drop 0"), 1);
        done("times 1 [in 0 0 5]", 2);
        done("times 20 [in 0 0 5]", 21);
        done("times 3 [times 0 [in 0 0 0]; least 0 0]", 7);
        // Of 50 there are but 10 left the third time.
        TickPools poor = Bench.made("market 2 2;pool 0 1 10 20 1 1 1;purse 0 0 9000;purse 0 1 9000;purse 1 0 50");
        poor.add(0, 0, 19, 21, 0, 10000);
        answers(poor, "times 3 [in 0 0 20]", Bench.fault(9, 5));
        answers(poor, "times 5[in 0 0 20;least 0 20]", Bench.fault(18, 5));
        answers(poor, "times 2 [in 0 0 20]", 3);
        TickPools x = Bench.plain();
        answers(x, "times 20 [in 0 0 5]", 21);
        TickPools y = Bench.plain();
        for (int i = 0; i < 20; i++) {
            y.in(1, 0, 0, 5, 0);
        }
        BENCH.holds("twenty times", Bench.picture(x).equals(Bench.picture(y)));
    }

    private static void hundredSteps() {
        // 4 * (1 + 20) + 1 are 85, and 15 are 100.
        String most = "times 4[times 20[least 0 0]];";
        done(most + "times 14[least 0 0]", 100);
        faulty(most + "times 15[least 0 0]", 38, 6);
        done(most + "times 13[least 0 0];times 0[least 0 0]", 100);
        faulty(most + "times 14[least 0 0];times 0[least 0 0]", 49, 6);
        faulty(most + "times 14[least 0 0];in 0 0 0", 49, 6);
        faulty(most + "times 14[least 0 0];in 0 0 5", 49, 6);
        faulty(most + "times 14[least 0 0];lend 0 0 5[least 0 0]", 49, 6);
        // The hundredth is a lend: the step in it is one too many.
        faulty(most + "times 13[least 0 0];lend 0 0 5[least 0 0]", 60, 6);
        done(most + "times 12[least 0 0];lend 0 0 5[least 0 0]", 100);
        // The hundredth itself can't be, or its loan can't go back.
        faulty(most + "times 13[least 0 0];in 0 0 0", 49, 5);
        faulty(most + "times 12[least 0 0];lend 0 0 5[in 0 0 5]", 60, 5);
        TickPools x = Bench.made("market 2 2;pool 0 1 10 20 1 1 1;purse 0 0 9000;purse 0 1 9000");
        x.add(0, 0, 19, 21, 0, 10000);
        answers(x, most + "times 12[least 0 0];lend 0 0 5[least 0 5]", Bench.fault(49, 7));
        faulty("times 20[times 20[times 20[times 20[least 0 0]]]]", 36, 6);
        faulty("times 20[times 4[least 0 0]]", 17, 6);
        faulty("times 20[times 5[least 0 0]];least 0 0", 17, 6);
        faulty("times 20[times 8[least 0 0]]", 9, 6);
        done("times 19[times 4[least 0 0]];least 0 0;least 0 0;least 0 0;least 0 0", 100);
    }

    private static void firstFailIsTold() {
        faulty("in 0 0 5;in 0 0 0;in 1 0 5", 9, 5);
        faulty("lend 0 0 5 [in 1 0 5]", 12, 5);
        faulty("times 20[times 20[least 0 0];in 0 0 0]", 29, 5);
    }

    private static void whollyOrNotAtAll() {
        TickPools x = Bench.plain();
        x.add(1, 0, 20, 22, 1, 5000);
        x.add(1, 0, 18, 20, 2, 5000);
        x.passes(5);
        x.in(0, 0, 0, 50, 0);
        x.passes(5);
        String before = Bench.picture(x);
        int known = x.mean(0, 10);
        // Stakes are dropped by themselves in it, ticks crossed, a mark made, a stake added.
        answers(x, "in 0 1 3000;in 0 0 5000;add 0 10 30 9;out 0 1 5;least 0 9999999", Bench.fault(48, 5));
        BENCH.holds("stakes, ticks crossed, marks as before", before.equals(Bench.picture(x)));
        BENCH.due("mean", x.mean(0, 10), known);
        BENCH.due("done wholly", Bench.bundle(x, 1, "in 0 1 3000;in 0 0 5000;add 0 10 30 9;out 0 1 5"), 4);
        TickPools y = Bench.plain();
        y.add(1, 0, 20, 22, 1, 5000);
        y.add(1, 0, 18, 20, 2, 5000);
        y.passes(5);
        y.in(0, 0, 0, 50, 0);
        y.passes(5);
        y.in(1, 0, 1, 3000, 40);
        BENCH.due("dropped upwards", y.count(3), 2);
        y.in(1, 0, 0, 5000, 0);
        BENCH.due("dropped downwards", y.count(3), 1);
        y.add(1, 0, 10, 30, 0, 9);
        y.out(1, 0, 1, 5);
        BENCH.holds("as by hand", Bench.picture(x).equals(Bench.picture(y)));
        BENCH.holds("the fails left nothing behind", x.mean(0, 10) == known);
    }

    private static void owedComesBackBehindAFail() {
        TickPools x = twoPools();
        TickPools y = twoPools();
        for (TickPools z : new TickPools[] {x, y}) {
            for (int i = 0; i < 3; i++) {
                // DEBT of both things by the first swaps, and GAIN besides by the others.
                z.in(1, 0, 0, 777, 0);
                z.in(1, 0, 1, 777, 40);
                z.in(1, 1, 1, 555, 40);
                z.in(1, 1, 0, 555, 0);
                if (i == 1) {
                    z.take(0, 1);
                    z.add(0, 1, 15, 25, 0, 1);
                }
            }
        }
        for (int stake = 0; stake < 2; stake++) {
            BENCH.holds("owed of the first", x.stake(stake, 8) > 5);
            BENCH.holds("owed of the second", x.stake(stake, 9) > 5);
        }
        answers(x, "in 0 0 50;in 1 1 50;lend 0 1 50 [least 0 9999999]", Bench.fault(33, 5));
        answers(x, "least 0 9999999", Bench.fault(0, 5));
        BENCH.due("a drop that does not last", Bench.bundle(x, 0, "drop 0 15 25;drop 1 15 25;in 0 0 5;in 0 1 0"),
            Bench.fault(35, 5));
        BENCH.due("the fraction of it, too", x.in(1, 0, 0, 61, 0), y.in(1, 0, 0, 61, 0));
        for (int stake = 0; stake < 2; stake++) {
            BENCH.due("as owed without these", x.stake(stake, 8), y.stake(stake, 8));
            BENCH.due("as owed without these", x.stake(stake, 9), y.stake(stake, 9));
            BENCH.due("as paid without these", x.pay(stake), y.pay(stake));
        }
        BENCH.holds("as it would be without these", Bench.picture(x).equals(Bench.picture(y)));
    }

    private static void faultLeavesNoBracketOpen() {
        TickPools x = twoPools();
        String[] faulty = {"times 1[times 1[times 1[times 1[zoo", "lend 0 0 5[lend 1 0 5[", "times 2[least 0 0;"};
        for (String text : faulty) {
            BENCH.holds("a fault", Bench.bundle(x, 1, text) < -2);
            answers(x, "least 0 0", 1);
            BENCH.holds("a fault", Bench.bundle(x, 1, text) < -2);
            answers(x, "least 0 0]", Bench.fault(9, 0));
            BENCH.holds("a fault", Bench.bundle(x, 1, text) < -2);
            answers(x, "times 1[times 1[times 1[times 1[least 0 0]]]]", 5);
        }
        // Nor does a fail within brackets.
        answers(x, "times 2[times 2[times 2[times 2[least 0 9999999]]]]", Bench.fault(32, 5));
        answers(x, "least 0 0", 1);
        answers(x, "lend 0 0 5[lend 1 0 5[least 0 9999999]]", Bench.fault(22, 5));
        answers(x, "lend 0 0 5[lend 1 0 5[least 0 0]]", 3);
    }

    private static void swapsGoToTheirEnds() {
        TickPools x = Bench.plain();
        answers(x, "in 0 0 9999", 1);
        BENCH.due("down to 0", x.pool(0, 6), 38554);
        BENCH.due("zone", x.pool(0, 5), 0);
        answers(x, "in 0 1 9999", 1);
        BENCH.due("up to 40", x.pool(0, 6), 259374);
        BENCH.due("zone", x.pool(0, 5), 39);
    }
}
