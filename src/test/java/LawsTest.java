import java.util.ArrayList;
import java.util.List;
import java.util.Random;

/** Laws that must hold in any market: checked in many, made by a seeded chance and lived in for a while. */
public final class LawsTest {
    private static final Bench BENCH = new Bench("LawsTest");
    private static final int MARKETS = 300;

    private final Random chance;
    private final List<int[]> acts = new ArrayList<>();
    private String text;
    private TickPools x;

    private LawsTest(long seed) {
        chance = new Random(seed);
    }

    public static void main(String[] args) {
        for (int seed = 1; seed <= MARKETS; seed++) {
            new LawsTest(seed).live();
        }
        BENCH.finish();
    }

    private void live() {
        text = someMarket();
        x = Bench.made(text);
        int[] totals = new int[x.count(0)];
        for (int thing = 0; thing < totals.length; thing++) {
            totals[thing] = x.total(thing);
        }
        for (int i = 0; i < 60; i++) {
            act();
            for (int thing = 0; thing < totals.length; thing++) {
                BENCH.due("total of " + thing, x.total(thing), totals[thing]);
            }
            if (i % 10 == 9) {
                String before = Bench.picture(x);
                ask();
                BENCH.holds("by what is asked nothing changes", before.equals(Bench.picture(x)));
            }
        }
    }

    private void ask() {
        for (int pool = 0; pool < x.count(2); pool++) {
            for (int side = 0; side < 2; side++) {
                int amount = someAmount();
                quotesComeTrue(pool, side, amount);
                roundComesTrue(pool, side, amount);
                leastIsLeast(pool, side, chance.nextInt(40));
            }
            overIsOver(pool);
        }
        for (int from = 0; from < x.count(0); from++) {
            for (int to = 0; to < x.count(0); to++) {
                if (from != to) {
                    routeIsBest(from, to, someAmount());
                }
            }
            ringIsBest(from);
        }
        partsComeTrue(0, 1, someAmount());
        bundleIsByHand();
    }

    private void quotesComeTrue(int pool, int side, int amount) {
        int thing = x.pool(pool, side);
        int other = x.pool(pool, 1 - side);
        int end = side == 0 ? chance.nextInt(x.pool(pool, 5) + 1) : 40 - chance.nextInt(40 - x.pool(pool, 5));
        int person = chance.nextInt(x.count(1));
        if (amount <= x.purse(person, thing)) {
            TickPools y = again();
            int had = y.pool(pool, 8 + side);
            BENCH.due("in as quoted", y.in(person, pool, side, amount, end), x.quoteIn(pool, side, amount, end, 0));
            BENCH.due("zone as quoted", y.pool(pool, 5), x.quoteIn(pool, side, amount, end, 3));
            BENCH.due("crossed as quoted", y.count(5) - x.count(5), x.quoteIn(pool, side, amount, end, 4));
            if (y.count(3) == x.count(3)) {
                BENCH.due("left as quoted", amount - (y.pool(pool, 8 + side) - had),
                    x.quoteIn(pool, side, amount, end, 1));
            }
        }
        TickPools y = again();
        int quoted = x.quoteOut(pool, side, amount, 0);
        int due = quoted >= 0 && quoted > x.purse(person, thing) ? -3 : quoted;
        BENCH.due("out as quoted", y.out(person, pool, side, amount), due);
        if (due >= 0) {
            BENCH.due("zone as quoted", y.pool(pool, 5), x.quoteOut(pool, side, amount, 2));
            BENCH.due("crossed as quoted", y.count(5) - x.count(5), x.quoteOut(pool, side, amount, 3));
            if (y.count(3) == x.count(3)) {
                BENCH.due("all comes out", y.purse(person, other), x.purse(person, other) + amount);
            }
        } else {
            BENCH.holds("nothing happened", Bench.picture(x).equals(Bench.picture(y)));
        }
    }

    private void roundComesTrue(int pool, int side, int amount) {
        TickPools y = again();
        if (amount > y.purse(0, y.pool(pool, side))) {
            return;
        }
        int there = y.in(0, pool, side, amount, side == 0 ? 0 : 40);
        int back = there < 1 ? 0 : y.in(0, pool, 1 - side, there, side == 0 ? 40 : 0);
        BENCH.due("round as done", x.round(pool, side, amount), back);
    }

    private void leastIsLeast(int pool, int side, int zone) {
        int least = x.least(pool, side, zone);
        if (least == -2) {
            BENCH.holds("not by the most", !comesTo(pool, side, 9999999, zone));
            return;
        }
        BENCH.holds("comes to it", comesTo(pool, side, least, zone));
        for (int less = Math.max(1, least - 3); less < least; less++) {
            BENCH.holds("less does not", !comesTo(pool, side, less, zone));
        }
        BENCH.holds("more does, too", comesTo(pool, side, Math.min(9999999, least + chance.nextInt(1000)), zone));
    }

    private boolean comesTo(int pool, int side, int amount, int zone) {
        int there = x.quoteIn(pool, side, amount, side == 0 ? 0 : 40, 3);
        return side == 0 ? there <= zone : there >= zone;
    }

    private void overIsOver(int pool) {
        TickPools y = again();
        y.levy(pool);
        for (int stake = y.count(3) - 1; stake >= 0; stake--) {
            if (y.stake(stake, 1) == pool) {
                y.take(stake, y.stake(stake, 5));
            }
        }
        BENCH.due("over of the first", x.pool(pool, 12), y.pool(pool, 8));
        BENCH.due("over of the second", x.pool(pool, 13), y.pool(pool, 9));
        BENCH.holds("never below 0", x.pool(pool, 12) >= 0 && x.pool(pool, 13) >= 0);
    }

    /** What a row of pools gives by quotes, one behind the other; 0 if it is no row. */
    private int byRow(int from, int to, int amount, int... row) {
        int thing = from;
        int much = amount;
        List<Integer> seen = new ArrayList<>();
        for (int i = 0; i < row.length; i++) {
            for (int j = 0; j < i; j++) {
                if (row[i] == row[j]) {
                    return 0;
                }
            }
            int side = x.pool(row[i], 0) == thing ? 0 : 1;
            if (x.pool(row[i], side) != thing || much < 1 || much > 9999999) {
                return 0;
            }
            seen.add(thing);
            thing = x.pool(row[i], 1 - side);
            boolean last = i == row.length - 1;
            if (last ? thing != to : seen.contains(thing) || thing == to) {
                return 0;
            }
            much = x.quoteIn(row[i], side, much, side == 0 ? 0 : 40, 0);
        }
        return much;
    }

    private List<int[]> rowsInOrder() {
        List<int[]> rows = new ArrayList<>();
        int pools = x.count(2);
        for (int a = 0; a < pools; a++) {
            rows.add(new int[] {a});
        }
        for (int a = 0; a < pools; a++) {
            for (int b = 0; b < pools; b++) {
                rows.add(new int[] {a, b});
            }
        }
        for (int a = 0; a < pools; a++) {
            for (int b = 0; b < pools; b++) {
                for (int c = 0; c < pools; c++) {
                    rows.add(new int[] {a, b, c});
                }
            }
        }
        return rows;
    }

    private void routeIsBest(int from, int to, int amount) {
        int best = 0;
        int[] bestRow = null;
        for (int[] row : rowsInOrder()) {
            int given = byRow(from, to, amount, row);
            if (given > best) {
                best = given;
                bestRow = row;
            }
        }
        for (int what = 0; what < 5; what++) {
            int due = what == 0 ? best : what == 1 && bestRow != null ? bestRow.length
                : bestRow != null && what - 2 < bestRow.length ? bestRow[what - 2] : -2;
            BENCH.due("route, what " + what, x.route(from, to, amount, what), bestRow == null ? -2 : due);
        }
    }

    private void ringIsBest(int thing) {
        int best = 0;
        int bestAmount = 0;
        int[] bestRow = null;
        for (int amount = 1; amount <= 10000; amount *= 10) {
            for (int[] row : rowsInOrder()) {
                int gain = byRow(thing, thing, amount, row) - amount;
                if (gain > best) {
                    best = gain;
                    bestAmount = amount;
                    bestRow = row;
                }
            }
        }
        for (int what = 0; what < 6; what++) {
            int due = what == 0 ? best : what == 1 ? bestAmount : what == 2 && bestRow != null ? bestRow.length
                : bestRow != null && what - 3 < bestRow.length ? bestRow[what - 3] : -2;
            BENCH.due("ring, what " + what, x.ring(thing, what), bestRow == null ? -2 : due);
        }
    }

    private void partsComeTrue(int from, int to, int amount) {
        TickPools y = again();
        int all = 0;
        int others = 0;
        String first = null;
        for (int k = 1; k <= 10; k++) {
            int part = amount * k / 10 - amount * (k - 1) / 10;
            if (part == 0) {
                continue;
            }
            int length = y.route(from, to, part, 1);
            if (length == -2) {
                BENCH.due("parts that are none", x.parts(from, to, amount, 0), -2);
                return;
            }
            int[] row = {y.route(from, to, part, 2), y.route(from, to, part, 3), y.route(from, to, part, 4)};
            String name = java.util.Arrays.toString(row);
            first = first == null ? name : first;
            others += name.equals(first) ? 0 : 1;
            int thing = from;
            int much = part;
            for (int i = 0; i < length; i++) {
                int side = y.pool(row[i], 0) == thing ? 0 : 1;
                if (much > y.purse(0, thing)) {
                    return;
                }
                much = y.in(0, row[i], side, much, side == 0 ? 0 : 40);
                thing = y.pool(row[i], 1 - side);
            }
            all += much;
        }
        BENCH.due("parts as done", x.parts(from, to, amount, 0), all);
        BENCH.due("other rows", x.parts(from, to, amount, 1), others);
    }

    private void bundleIsByHand() {
        TickPools y = again();
        TickPools z = again();
        int pool = chance.nextInt(x.count(2));
        int amount = someAmount();
        int person = chance.nextInt(x.count(1));
        boolean good = y.in(person, pool, 0, amount, 0) >= 0 && y.out(person, pool, 1, 7) >= 0;
        int answer = Bench.bundle(z, person, "in " + pool + " 0 " + amount + ";out " + pool + " 1 7");
        BENCH.holds("a bundle is done as by hand, or fails", good ? answer == 2 : answer < -2);
        BENCH.holds("wholly or not at all", Bench.picture(z).equals(Bench.picture(good ? y : x)));
    }

    /** Another object with the same life behind it. */
    private TickPools again() {
        TickPools y = Bench.made(text);
        for (int[] act : acts) {
            perform(y, act);
        }
        return y;
    }

    private void act() {
        int pool = chance.nextInt(x.count(2));
        int person = chance.nextInt(x.count(1));
        int spacing = x.pool(pool, 4);
        int zone = x.pool(pool, 5);
        int low = Math.max(0, zone - chance.nextInt(10)) / spacing * spacing;
        int high = Math.min(40, zone + spacing + chance.nextInt(8)) / spacing * spacing;
        int side = chance.nextInt(2);
        int end = chance.nextInt(4) == 0 ? chance.nextInt(41) : side == 0 ? 0 : 40;
        int[][] all = {
            {0, person, pool, low, high, chance.nextInt(3), 1 + chance.nextInt(99999)},
            {0, person, pool, low, high, chance.nextInt(3), 1 + chance.nextInt(99999)},
            {1, chance.nextInt(12), 1 + chance.nextInt(99999)},
            {2, chance.nextInt(12)},
            {3, pool},
            {4, person, pool, side, someAmount(), end},
            {4, person, pool, side, someAmount(), end},
            {5, person, pool, side, someAmount()},
            {6, 1 + chance.nextInt(20)},
        };
        int[] act = all[chance.nextInt(all.length)];
        acts.add(act);
        perform(x, act);
    }

    private static void perform(TickPools y, int[] a) {
        switch (a[0]) {
            case 0: y.add(a[1], a[2], a[3], a[4], a[5], a[6]); break;
            case 1: y.take(a[1], a[2]); break;
            case 2: y.pay(a[1]); break;
            case 3: y.levy(a[1]); break;
            case 4: y.in(a[1], a[2], a[3], a[4], a[5]); break;
            case 5: y.out(a[1], a[2], a[3], a[4]); break;
            default: y.passes(a[1]); break;
        }
    }

    private int someAmount() {
        int most = (int) Math.pow(10, 1 + chance.nextInt(6));
        return 1 + chance.nextInt(most);
    }

    private String someMarket() {
        int things = 2 + chance.nextInt(3);
        int people = 1 + chance.nextInt(3);
        StringBuilder made = new StringBuilder("market " + things + " " + people);
        int pools = 1 + chance.nextInt(5);
        for (int i = 0; i < pools; i++) {
            int first = chance.nextInt(things);
            int second = (first + 1 + chance.nextInt(things - 1)) % things;
            made.append(";pool " + first + " " + second + " " + chance.nextInt(100) + " " + chance.nextInt(101)
                + " " + (1 + chance.nextInt(3)) + " " + (500 + chance.nextInt(999)) + " " + (500 + chance.nextInt(999)));
        }
        for (int person = 0; person < people; person++) {
            for (int thing = 0; thing < things; thing++) {
                made.append(";purse " + person + " " + thing + " " + (1000000 + chance.nextInt(8999999)));
            }
        }
        return made.toString();
    }
}
