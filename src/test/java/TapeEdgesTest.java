/** Promises 1 to 4, edge by edge: the tape when it is full, empty or cut, and each bound of a market's text. */
public final class TapeEdgesTest {
    private static final Bench BENCH = new Bench("TapeEdgesTest");
    private static final String TWO = "market 2 1";
    private static final String POOL = ";pool 0 1 0 0 1 1 1";

    public static void main(String[] args) {
        nothingOfAMarketWithoutOne();
        feedWhenFull();
        feedWithoutRoomForAllTwenty();
        feedBehindWhatIsThere();
        eachByteAtItsPlace();
        bytesOfNumbersBelowZero();
        endAtItsBounds();
        endCutsForGood();
        emptyTape();
        textOfFourHundredBytes();
        faultsAtTheFarEnd();
        tapeIsEmptyBehindAFault();
        signsNextToDigitsAndLetters();
        blanksAlone();
        sevenDigits();
        numbersThatWouldWrapAround();
        sizesAtTheirBounds();
        poolNumbersAtTheirBounds();
        purseNumbersAtTheirBounds();
        thingsOfAPoolAreUnlike();
        purseToldAgain();
        thirtyClauses();
        fivePools();
        marketOnlyOnceAndFirst();
        leastFaultOfOnePlace();
        firstFaultAlongTheText();
        refusedMarketKeepsAll();
        BENCH.finish();
    }

    private static void good(String text, int pools) {
        BENCH.due("market of '" + text + "'", Bench.market(new TickPools(), text), pools);
    }

    private static void faulty(String text, int place, int kind) {
        BENCH.due("market of '" + text + "'", Bench.market(new TickPools(), text), Bench.fault(place, kind));
    }

    // Promise 1.

    private static void nothingOfAMarketWithoutOne() {
        TickPools x = new TickPools();
        BENCH.due("no things", x.count(0), 0);
        BENCH.due("no people", x.count(1), 0);
        BENCH.due("no pools", x.count(2), 0);
        BENCH.due("nobody", x.purse(0, 0), -1);
        BENCH.due("time does not go on", x.passes(1), -1);
        BENCH.due("TIME", x.count(4), 0);
        BENCH.due("the tape is empty", x.count(6), 0);
        BENCH.due("and can't be longer", x.end(1), -1);
    }

    // Promise 2.

    private static void feedWhenFull() {
        TickPools x = new TickPools();
        Bench.tell(x, Bench.padded("market 3 2", 400));
        BENCH.due("it is full", x.count(6), 400);
        BENCH.due("one more", x.feed(0x58585858, 0x58585858, 0x58585858, 0x58585858, 0x58585858), -1);
        BENCH.due("none has come", x.count(6), 400);
        BENCH.due("nor over what was there", x.market(), 0);
        BENCH.due("THINGS", x.count(0), 3);
        BENCH.due("there is room again", x.feed(0, 0, 0, 0, 0), 20);
    }

    private static void feedWithoutRoomForAllTwenty() {
        for (int length = 381; length < 400; length++) {
            TickPools x = new TickPools();
            Bench.tell(x, Bench.padded("market 2 1", 400));
            x.end(length);
            BENCH.due("no room behind " + length, x.feed(0x21212121, 0, 0, 0, 0), -1);
            BENCH.due("none of them has come", x.count(6), length);
            BENCH.due("nothing but blanks there", x.market(), 0);
        }
        TickPools x = new TickPools();
        Bench.tell(x, Bench.padded("market 2 1", 400));
        x.end(380);
        BENCH.due("just room", x.feed(0x20202020, 0x20202020, 0x20202020, 0x20202020, 0x20202021), 400);
        BENCH.due("the last byte is there", x.market(), Bench.fault(399, 0));
    }

    private static void feedBehindWhatIsThere() {
        TickPools x = new TickPools();
        // "market 2 1" and ten bytes of 0, cut; then ";purse 0 1 77" and blanks.
        x.feed(0x6d61726b, 0x65742032, 0x20310000, 0, 0);
        x.end(10);
        BENCH.due("behind ten", x.feed(0x3b707572, 0x73652030, 0x20312037, 0x37202020, 0x20202020), 30);
        BENCH.due("one text", x.market(), 0);
        BENCH.due("purse", x.purse(0, 1), 77);
    }

    private static void eachByteAtItsPlace() {
        for (int place = 0; place < 20; place++) {
            int[] numbers = {0x20202020, 0x20202020, 0x20202020, 0x20202020, 0x20202020};
            int shift = 24 - place % 4 * 8;
            numbers[place / 4] = 0x20202020 & ~(255 << shift) | '!' << shift;
            TickPools x = new TickPools();
            x.feed(numbers[0], numbers[1], numbers[2], numbers[3], numbers[4]);
            BENCH.due("a byte at " + place, x.market(), Bench.fault(place, 0));
        }
    }

    private static void bytesOfNumbersBelowZero() {
        int[] numbers = {Integer.MIN_VALUE, -1, 0x20ff2020, 0x2020ff20, 0x202020ff, 0x20a02020};
        int[] places = {0, 0, 1, 2, 3, 1};
        for (int i = 0; i < numbers.length; i++) {
            TickPools x = new TickPools();
            x.feed(numbers[i], 0x20202020, 0x20202020, 0x20202020, 0x20202020);
            BENCH.due("bytes of " + numbers[i], x.market(), Bench.fault(places[i], 0));
        }
        // Its low 7 bits would be a blank, or the m of market.
        faulty((char) 160 + TWO, 0, 0);
        faulty((char) ('m' + 128) + "arket 2 1", 0, 0);
        faulty("market" + (char) 255 + "2 1", 6, 0);
    }

    // Promise 3.

    private static void endAtItsBounds() {
        TickPools x = new TickPools();
        BENCH.due("end(0) of none", x.end(0), 0);
        BENCH.due("end(1) of none", x.end(1), -1);
        x.feed(0, 0, 0, 0, 0);
        BENCH.due("end(21) of 20", x.end(21), -1);
        BENCH.due("as many as before", x.count(6), 20);
        BENCH.due("end(20) of 20", x.end(20), 20);
        BENCH.due("end(-1)", x.end(-1), -1);
        BENCH.due("end of the least", x.end(Integer.MIN_VALUE), -1);
        BENCH.due("end of the most", x.end(Integer.MAX_VALUE), -1);
        BENCH.due("as many as before", x.count(6), 20);
        BENCH.due("end(19)", x.end(19), 19);
        BENCH.due("end(20) of 19", x.end(20), -1);
        BENCH.due("end(1)", x.end(1), 1);
        BENCH.due("end(0)", x.end(0), 0);
        BENCH.due("none then", x.count(6), 0);
    }

    private static void endCutsForGood() {
        TickPools x = new TickPools();
        Bench.tell(x, "market 2 12;");
        x.end(10);
        BENCH.due("cut to what can stand", x.market(), 0);
        BENCH.due("PEOPLE", x.count(1), 1);
        Bench.tell(x, "market 2 1");
        x.end(-1);
        x.end(11);
        BENCH.due("a refused end cuts nothing", x.market(), 0);
        Bench.tell(x, "market 2 1");
        x.end(8);
        BENCH.due("cut too short", x.market(), Bench.fault(8, 0));
    }

    // Promise 4.

    private static void emptyTape() {
        TickPools x = new TickPools();
        BENCH.due("of a new object", x.market(), Bench.fault(0, 0));
        Bench.market(x, TWO + POOL);
        BENCH.due("behind a market: the end at place 0", x.market(), -3);
        BENCH.due("the MARKET stays", x.count(2), 1);
    }

    private static void textOfFourHundredBytes() {
        good(Bench.padded(TWO + POOL, 400), 1);
        StringBuilder text = new StringBuilder(Bench.padded("", 400 - TWO.length() - POOL.length()));
        good(text + TWO + POOL, 1);
        good(Bench.padded(TWO + ";purse 0 0 ", 393) + "9999999", 0);
    }

    private static void faultsAtTheFarEnd() {
        faulty(Bench.padded("", 400), 400, 0);
        faulty(Bench.padded(TWO, 399) + ";", 400, 0);
        faulty(Bench.padded(TWO, 399) + "x", 399, 0);
        faulty(Bench.padded(TWO + ";", 399) + "p", 399, 0);
        faulty(Bench.padded(TWO + ";", 394) + "market", 394, 2);
        faulty(Bench.padded(TWO + ";purse 0 0 ", 392) + "99999999", 392, 1);
        BENCH.due("the greatest there is", Bench.fault(400, 0), -3203);
    }

    private static void tapeIsEmptyBehindAFault() {
        TickPools x = new TickPools();
        Bench.tell(x, "market 2 x");
        x.market();
        BENCH.due("empty", x.count(6), 0);
        BENCH.due("nothing to end", x.end(1), -1);
        BENCH.due("fed from its first byte on", x.feed(0, 0, 0, 0, 0), 20);
    }

    private static void signsNextToDigitsAndLetters() {
        // 47 and 58 lie next to the digits, 96 and 123 next to the small letters; 0, 31, 33 are no blanks.
        int[] odd = {0, 9, 10, 13, 31, 33, 47, 58, 59, 91, 93, 96, 123, 127, 128, 160, 255};
        for (int sign : odd) {
            char c = (char) sign;
            faulty(c + "market 2 1", 0, 0);
            faulty("market" + c + "2 1", 6, 0);
            faulty("market " + c + "2 1", 7, 0);
            faulty("market 2" + c + "1", 8, 0);
            if (c != ';') {
                faulty("market 2 1" + c, 10, 0);
                faulty("market 2 1" + c + "pool", 10, 0);
            }
        }
        faulty("marke" + (char) 96 + " 2 1", 0, 0);
        faulty("market" + "a 2 1", 0, 0);
        faulty("market" + "z 2 1", 0, 0);
        faulty("market 2 1;poola 0 1 0 0 1 1 1", 11, 0);
        faulty("market 2 1;poolz 0 1 0 0 1 1 1", 11, 0);
        faulty("market 2 1;poo 0 1 0 0 1 1 1", 11, 0);
        faulty("market 2 1;Pool 0 1 0 0 1 1 1", 11, 0);
        faulty("market 2 1;purs", 11, 0);
        faulty("market 2 1;purse 0 0 +5", 21, 0);
        faulty("market 2 1;purse 0 0 5,", 22, 0);
        faulty("market 2 1;purse 0 0 5.0", 22, 0);
    }

    private static void blanksAlone() {
        good("market2 1;pool0 1 0 0 1 1 1;purse0 0 0", 1);
        good("  market  2  1  ;  pool  0  1  0  0  1  1  1  ;  purse  0  0  0  ", 1);
        faulty("mar ket 2 1", 0, 0);
        faulty("market 2 1 ; po ol", 13, 0);
        // A blank ends a NUMBER: 2 and 1 are two of them.
        faulty("market 21", 7, 1);
        faulty("market 2 1 0", 11, 0);
    }

    private static void sevenDigits() {
        good("market 0000002 0000001", 0);
        faulty("market 00000002 1", 7, 1);
        faulty("market 2 00000001", 9, 1);
        good("market 2 1;purse 0 0 0000000", 0);
        good("market 2 1;purse 0 0 9999999", 0);
        faulty("market 2 1;purse 0 0 00000000", 21, 1);
        faulty("market 2 1;purse 0 0 10000000", 21, 1);
        faulty("market 2 1;purse 00000000 0 0", 17, 1);
        good("market 2 1;pool 0000000 0000001 0000000 0000000 0000001 0000001 0000001", 1);
    }

    private static void numbersThatWouldWrapAround() {
        // 2 to the 32nd, and to the 64th, and 2: in 32 or 64 bits just 2.
        faulty("market 4294967298 1", 7, 1);
        faulty("market 18446744073709551618 1", 7, 1);
        faulty("market 2 4294967297", 9, 1);
        faulty("market 2 1;purse 0 0 4294967296", 21, 1);
        StringBuilder many = new StringBuilder("market ");
        while (many.length() < 399) {
            many.append('0');
        }
        faulty(many + "2", 7, 1);
    }

    private static void sizesAtTheirBounds() {
        good("market 2 1", 0);
        good("market 5 4", 0);
        faulty("market 1 4", 7, 1);
        faulty("market 0 4", 7, 1);
        faulty("market 6 4", 7, 1);
        faulty("market 5 0", 9, 1);
        faulty("market 5 5", 9, 1);
        TickPools x = Bench.made("market 5 4");
        BENCH.due("THINGS", x.count(0), 5);
        BENCH.due("PEOPLE", x.count(1), 4);
        BENCH.due("the last purse", x.purse(3, 4), 0);
        BENCH.due("no person 4", x.purse(4, 4), -1);
        BENCH.due("no thing 5", x.purse(3, 5), -1);
    }

    private static void poolNumbersAtTheirBounds() {
        String[] least = {"0", "1", "0", "0", "1", "1", "1"};
        String[] most = {"2", "1", "99", "100", "10", "9999", "9999"};
        String[] beyond = {"3", "3", "100", "101", "11", "10000", "10000"};
        String[] below = {null, null, null, null, "0", "0", "0"};
        for (int i = 0; i < 7; i++) {
            poolNumber(least, i, most[i], true);
            poolNumber(least, i, beyond[i], false);
            poolNumber(least, i, "9999999", false);
            if (below[i] != null) {
                poolNumber(least, i, below[i], false);
            }
            poolNumber(least, i, "x", false);
        }
        TickPools x = Bench.made("market 3 1;pool 2 1 99 100 10 9999 9999");
        int[] due = {2, 1, 99, 100, 10, 20, 100000, 0, 0, 0, 0, 0, 0, 0};
        for (int what = 0; what < due.length; what++) {
            BENCH.due("pool of the most, what " + what, x.pool(0, what), due[what]);
        }
        x = Bench.made("market 3 1;pool 0 1 0 0 1 1 1");
        int[] dueOfLeast = {0, 1, 0, 0, 1, 20};
        for (int what = 0; what < dueOfLeast.length; what++) {
            BENCH.due("pool of the least, what " + what, x.pool(0, what), dueOfLeast[what]);
        }
    }

    private static void poolNumber(String[] plain, int number, String told, boolean fits) {
        StringBuilder text = new StringBuilder("market 3 1;pool");
        int place = 0;
        for (int i = 0; i < plain.length; i++) {
            text.append(' ');
            place = i == number ? text.length() : place;
            text.append(i == number ? told : plain[i]);
        }
        if (fits) {
            good(text.toString(), 1);
        } else {
            faulty(text.toString(), place, told.equals("x") ? 0 : 1);
        }
    }

    private static void purseNumbersAtTheirBounds() {
        TickPools x = Bench.made("market 3 2;purse 0 0 0;purse 1 2 9999999;purse 0 2 1");
        BENCH.due("the least", x.purse(0, 0), 0);
        BENCH.due("the most", x.purse(1, 2), 9999999);
        BENCH.due("another", x.purse(0, 2), 1);
        BENCH.due("not told", x.purse(1, 0), 0);
        faulty("market 3 2;purse 2 0 1", 17, 1);
        faulty("market 3 2;purse 0 3 1", 19, 1);
        faulty("market 3 2;purse 1 2 10000000", 21, 1);
        faulty("market 3 2;purse 1 2", 20, 0);
        faulty("market 3 2;purse 1", 18, 0);
        faulty("market 3 2;purse", 16, 0);
    }

    private static void thingsOfAPoolAreUnlike() {
        good("market 2 1;pool 1 0 0 0 1 1 1", 1);
        faulty("market 2 1;pool 0 0 0 0 1 1 1", 18, 1);
        faulty("market 2 1;pool 1 1 0 0 1 1 1", 18, 1);
        faulty("market 5 1;pool 4 0000004 0 0 1 1 1", 18, 1);
        good("market 5 1;pool 4 3 0 0 1 1 1;pool 4 3 0 0 1 1 1", 2);
    }

    private static void purseToldAgain() {
        TickPools x = Bench.made("market 2 1;purse 0 0 9999999;purse 0 1 4;purse 0 0 9999999;purse 0 1 0");
        BENCH.due("not twice as much", x.purse(0, 0), 9999999);
        BENCH.due("the last one, if it is 0", x.purse(0, 1), 0);
        BENCH.due("total", x.total(0), 9999999);
    }

    private static String clauses(int many) {
        StringBuilder text = new StringBuilder(TWO);
        for (int i = 1; i < many; i++) {
            text.append(";purse 0 0 ").append(i);
        }
        return text.toString();
    }

    private static void thirtyClauses() {
        good(clauses(30), 0);
        good(clauses(30) + "   ", 0);
        int place = clauses(30).length() + 1;
        faulty(clauses(31), place, 2);
        faulty(clauses(30) + ";purse", place, 2);
        faulty(clauses(30) + ";pool 0 1 0 0 1 1 1", place, 2);
        faulty(clauses(30) + ";market 2 1", place, 2);
        faulty(clauses(30) + ";  purse 0 0 1", place + 2, 2);
        faulty(clauses(30) + ";", place, 0);
        faulty(clauses(30) + ";7", place, 0);
        faulty(clauses(30) + ";pursed", place, 0);
        faulty(clauses(30) + "]", place - 1, 0);
        faulty(clauses(29) + ";", clauses(29).length() + 1, 0);
    }

    private static void fivePools() {
        good(TWO + POOL + POOL + POOL + POOL, 4);
        String five = TWO + POOL + POOL + POOL + POOL + POOL;
        good(five, 5);
        good(five + ";purse 0 0 1", 5);
        faulty(five + POOL, five.length() + 1, 2);
        faulty(five + ";   pool", five.length() + 4, 2);
        faulty(five + ";purse 0 0 1" + POOL, five.length() + 13, 2);
        TickPools x = Bench.made(five);
        BENCH.due("the fifth", x.pool(4, 0), 0);
        BENCH.due("no sixth", x.pool(5, 0), -1);
    }

    private static void marketOnlyOnceAndFirst() {
        faulty("pool", 0, 2);
        faulty("purse 0 0 1;market 2 1", 0, 2);
        faulty("   pool 0 1 0 0 1 1 1", 3, 2);
        faulty("market 2 1;market 2 1", 11, 2);
        faulty("market 2 1;purse 0 0 1;  market", 25, 2);
        faulty("market 9 1;market", 7, 1);
    }

    private static void leastFaultOfOnePlace() {
        // What can't stand there goes ahead of one too many.
        String five = TWO + POOL + POOL + POOL + POOL + POOL;
        faulty(five + ";poolx", five.length() + 1, 0);
        faulty("market 2 1;marketx", 11, 0);
        faulty("poolx", 0, 0);
        faulty("5", 0, 0);
        faulty(";", 0, 0);
    }

    private static void firstFaultAlongTheText() {
        faulty("market 2 9;zoo;market", 9, 1);
        faulty("market 2 1;zoo;market 9", 11, 0);
        faulty("market 2 1;market;zoo", 11, 2);
        faulty("market 2 1;pool 0 0 200", 18, 1);
        faulty("market 2 1;pool 0 1 200 200 200 20000 20000", 20, 1);
        faulty("market 9", 7, 1);
    }

    private static void refusedMarketKeepsAll() {
        TickPools x = Bench.made("market 2 2;pool 0 1 10 20 1 1 1;purse 0 0 5000;purse 0 1 5000;purse 1 0 70");
        x.add(0, 0, 18, 22, 1, 1000);
        x.passes(9);
        x.in(1, 0, 0, 70, 0);
        x.passes(3);
        String before = Bench.picture(x);
        String[] refused = {"", "market", "market 1 1", "market 5 4;pool 0 1 0 0 1 1 1;pool 0 1 0 0 1 1 1;purse 4 0 0",
            "market 5 4;purse 0 0 9;purse 1 1 9;market 2 1", "zoo"};
        for (String text : refused) {
            BENCH.holds("'" + text + "' is refused", Bench.market(x, text) < -2);
            BENCH.holds("all stays behind '" + text + "'", before.equals(Bench.picture(x)));
        }
        BENCH.due("the stake can still be taken", x.take(0, 1000), 0);
        BENCH.due("TIME goes on", x.passes(1), 13);
    }
}
