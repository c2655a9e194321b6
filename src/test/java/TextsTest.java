import java.util.Random;

/** Promises 4 and 5: texts made by a seeded chance, nearly right or wholly wrong, are done, or refused with all as it was. */
public final class TextsTest {
    private static final Bench BENCH = new Bench("TextsTest");
    private static final String[] WORDS = {
        "market", "pool", "purse", "in", "out", "add", "drop", "least", "lend", "times", "all", "got", "[", "]", ";", ";",
        "0", "1", "2", "4", "5", "19", "21", "40", "41", "100", "9999", "99999", "100000", "9999999", "10000000", " ", "",
    };
    private static final String[] STEPS = {
        "in 0 0 5", "in 0 1 all", "in 1 0 got", "out 0 0 5", "out 1 1 got", "add 0 19 21 5", "add 1 0 40 99999",
        "drop 0 19 21", "least 0 0", "lend 0 0 5 [", "lend 1 1 all [", "times 2 [", "times 0 [", "times 20 [", "]", "]",
    };
    private static final String[] CLAUSES = {
        "market 2 1", "market 5 4", "pool 0 1 0 0 1 1 1", "pool 1 0 99 100 10 9999 1", "purse 0 0 9999999", "purse 0 1 5",
    };
    private static final Random CHANCE = new Random(2718);

    public static void main(String[] args) {
        TickPools x = staked();
        for (int i = 0; i < 20000; i++) {
            bundleIsDoneOrRefused(x, i % 3 == 0 ? someOf(WORDS, " ") : someOf(STEPS, i % 3 == 1 ? ";" : "; "));
            if (i % 40 == 0) {
                x = staked();
            }
        }
        for (int i = 0; i < 20000; i++) {
            String text = i % 3 == 0 ? someOf(WORDS, " ") : "market 2 1;" + someOf(CLAUSES, i % 3 == 1 ? ";" : " ; ");
            marketIsReadOrRefused(staked(), text);
        }
        BENCH.finish();
    }

    private static TickPools staked() {
        TickPools x = Bench.made("market 3 2;pool 0 1 10 20 1 1 1;pool 1 2 30 50 1 4 5;purse 0 0 99999;purse 0 1 99999"
            + ";purse 0 2 99999;purse 1 0 9999;purse 1 1 9999;purse 1 2 9999");
        x.add(0, 0, 15, 25, CHANCE.nextInt(3), 20000);
        x.add(0, 1, 10, 30, CHANCE.nextInt(3), 20000);
        x.add(1, 0, 19, 21, 0, 5000);
        return x;
    }

    private static String someOf(String[] parts, String between) {
        StringBuilder text = new StringBuilder();
        int many = 1 + CHANCE.nextInt(14);
        for (int i = 0; i < many; i++) {
            boolean joined = text.length() == 0 || text.charAt(text.length() - 1) == '[';
            text.append(joined && CHANCE.nextInt(20) > 0 ? "" : between).append(parts[CHANCE.nextInt(parts.length)]);
        }
        // "]" ends what stands ahead of it, so it mostly takes no ";".
        String told = CHANCE.nextInt(10) > 0 ? text.toString().replaceAll("; ?\\]", "]") : text.toString();
        if (CHANCE.nextInt(8) == 0) {
            int place = CHANCE.nextInt(told.length() + 1);
            told = told.substring(0, place) + (char) CHANCE.nextInt(256) + told.substring(place);
        }
        return told.substring(0, Math.min(400, told.length()));
    }

    private static void bundleIsDoneOrRefused(TickPools x, String text) {
        String before = Bench.picture(x);
        int[] totals = {x.total(0), x.total(1), x.total(2)};
        int answer = Bench.bundle(x, CHANCE.nextInt(2), text);
        BENCH.due("the tape behind '" + text + "'", x.count(6), 0);
        if (answer < 0) {
            refused(text, answer, 7);
            BENCH.holds("all stays behind '" + text + "'", before.equals(Bench.picture(x)));
        } else {
            BENCH.holds("1 to 100 steps of '" + text + "': " + answer, answer >= 1 && answer <= 100);
        }
        for (int thing = 0; thing < 3; thing++) {
            BENCH.due("total behind '" + text + "'", x.total(thing), totals[thing]);
        }
        for (int pool = 0; pool < 2; pool++) {
            BENCH.holds("nothing less than 0 behind '" + text + "'", x.pool(pool, 12) >= 0 && x.pool(pool, 13) >= 0);
        }
    }

    private static void marketIsReadOrRefused(TickPools x, String text) {
        String before = Bench.picture(x);
        int answer = Bench.market(x, text);
        BENCH.due("the tape behind '" + text + "'", x.count(6), 0);
        if (answer < 0) {
            refused(text, answer, 2);
            BENCH.holds("all stays behind '" + text + "'", before.equals(Bench.picture(x)));
        } else {
            BENCH.due("pools of '" + text + "'", answer, text.split("pool", -1).length - 1);
            BENCH.due("stakes of '" + text + "'", x.count(3), 0);
        }
    }

    private static void refused(String text, int answer, int mostKind) {
        int fault = -2 - answer - 1;
        int place = fault / 8;
        int kind = fault % 8;
        BENCH.holds("a place in or behind '" + text + "': " + place, fault >= 0 && place <= text.length());
        BENCH.holds("a kind of '" + text + "': " + kind, kind <= mostKind && (kind <= 3 || kind >= 5));
        BENCH.holds("not at a blank of '" + text + "': " + place, place == text.length() || text.charAt(place) != ' ');
        BENCH.holds("a number at " + place + " of '" + text + "'", kind != 1 || Character.isDigit(text.charAt(place)));
        BENCH.holds("a [ at " + place + " of '" + text + "'", kind != 3 || text.charAt(place) == '[');
        boolean word = kind == 2 || kind >= 5;
        BENCH.holds("a word at " + place + " of '" + text + "'", !word || Character.isLowerCase(text.charAt(place)));
    }
}
