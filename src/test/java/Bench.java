import java.nio.charset.StandardCharsets;

/** What the tests share: telling a text, and counting answers that are not due. */
final class Bench {
    /** A market of one pool at tick 20, with a fee of 10 and a cut of 20, and two people who have some of both things. */
    static final String PLAIN = "market 2 2;pool 0 1 10 20 1 1 1"
        + ";purse 0 0 100000;purse 0 1 100000;purse 1 0 50000;purse 1 1 50000";

    private final String name;
    private int asked;
    private int wrong;

    Bench(String name) {
        this.name = name;
    }

    void due(String what, long got, long want) {
        asked++;
        if (got != want) {
            wrong++;
            System.out.println(name + ": " + what + " answered " + got + ", due is " + want);
        }
    }

    void holds(String what, boolean good) {
        due(what, good ? 1 : 0, 1);
    }

    void finish() {
        System.out.println(name + ": " + asked + " answers, " + wrong + " wrong");
        if (wrong > 0 || asked == 0) {
            System.exit(1);
        }
    }

    /** The tape has this text alone then. */
    static void tell(TickPools x, String text) {
        x.end(0);
        byte[] bytes = text.getBytes(StandardCharsets.ISO_8859_1);
        for (int at = 0; at < bytes.length; at += 20) {
            int[] numbers = new int[5];
            for (int i = 0; i < 20; i++) {
                int sign = at + i < bytes.length ? bytes[at + i] & 255 : 0;
                numbers[i / 4] = numbers[i / 4] << 8 | sign;
            }
            x.feed(numbers[0], numbers[1], numbers[2], numbers[3], numbers[4]);
        }
        x.end(bytes.length);
    }

    static int market(TickPools x, String text) {
        tell(x, text);
        return x.market();
    }

    static int bundle(TickPools x, int person, String text) {
        tell(x, text);
        return x.bundle(person);
    }

    static TickPools made(String text) {
        TickPools x = new TickPools();
        if (market(x, text) < 0) {
            throw new IllegalStateException("the test's own market is faulty: " + text);
        }
        return x;
    }

    /** That market with a stake of person 0, of 10000 between ticks 19 and 21. */
    static TickPools plain() {
        TickPools x = made(PLAIN);
        x.add(0, 0, 19, 21, 0, 10000);
        return x;
    }

    /** Numbers that are none of these: the one below them, the one above them, and the outermost ones. */
    static int[] odd(int below, int above) {
        return new int[] {below, above, Integer.MIN_VALUE, Integer.MAX_VALUE};
    }

    /** The text and as many blanks behind it as make it so long. */
    static String padded(String text, int length) {
        StringBuilder all = new StringBuilder(text);
        while (all.length() < length) {
            all.append(' ');
        }
        return all.toString();
    }

    /** What comes out, what is LEFT, the FEES, the ZONE, the TICKS CROSSED, as far as told, of a QUOTE in pool 0. */
    void quoteInIs(TickPools x, int side, int amount, int end, int... due) {
        for (int what = 0; what < due.length; what++) {
            due("quoteIn " + side + " " + amount + " " + end + ", what " + what,
                x.quoteIn(0, side, amount, end, what), due[what]);
        }
    }

    /** What comes in, the FEES, the ZONE, the TICKS CROSSED, as far as told, of a QUOTE in pool 0. */
    void quoteOutIs(TickPools x, int side, int amount, int... due) {
        for (int what = 0; what < due.length; what++) {
            due("quoteOut " + side + " " + amount + ", what " + what, x.quoteOut(0, side, amount, what), due[what]);
        }
    }

    /** What market() and bundle() answer for a fault or a fail of this kind at this place. */
    static int fault(int place, int kind) {
        return -2 - (1 + 8 * place + kind);
    }

    /** All that can be asked about what there is; two like pictures are two like states. */
    static String picture(TickPools x) {
        StringBuilder all = new StringBuilder();
        for (int what = 0; what < 6; what++) {
            all.append(x.count(what)).append(' ');
        }
        for (int person = 0; person < x.count(1); person++) {
            for (int thing = 0; thing < x.count(0); thing++) {
                all.append(x.purse(person, thing)).append(' ');
            }
        }
        for (int pool = 0; pool < x.count(2); pool++) {
            for (int what = 0; what < 14; what++) {
                all.append(x.pool(pool, what)).append(' ');
            }
            for (int n = 1; n <= x.count(4) && n < 200; n++) {
                all.append(x.mean(pool, n)).append(' ');
            }
        }
        for (int stake = 0; stake < x.count(3); stake++) {
            for (int what = 0; what < 11; what++) {
                all.append(x.stake(stake, what)).append(' ');
            }
        }
        return all.toString();
    }
}
