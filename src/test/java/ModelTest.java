import java.util.Random;

/** All promises: long runs of random calls on BowingRow and on the model, answer by answer. */
final class ModelTest {
    private static final int RUNS = 3000;
    private static final int CALLS = 512;
    private static final String[] SIMPLE = {"age", "load", "errand", "older", "heavier", "longer", "hour"};
    private static final String[] NAMES = {"feed", "row", "law", "fault", "told", "person", "way", "until", "must",
        "worth", "day", "call", "holder", "ends", "balance", "book", "owed", "tell", "forget", "judge", "again", "plan",
        "best", "gain", "rest", "polite", "struck", "hopeless", "image", "restore", "count"};
    private static final int[] WILD = {-1, Integer.MIN_VALUE, Integer.MAX_VALUE, 5, 8, 9, 17, 100, 1024, -9};

    private final Random random;
    private final BowingRow x = new BowingRow();
    private final Model model = new Model();
    private final StringBuilder told = new StringBuilder();
    private boolean wrong;
    private int calls;

    private ModelTest(long seed) {
        random = new Random(seed);
    }

    public static void main(String[] args) {
        int runs = args.length > 0 ? Integer.parseInt(args[0]) : RUNS;
        long seed = args.length > 1 ? Long.parseLong(args[1]) : 1;
        for (int run = 0; run < runs; run++) {
            ModelTest test = new ModelTest(seed * 1_000_003 + run);
            test.goThrough();
            Check.same("run " + run + " goes wrong" + (test.wrong ? "\n" + test.told : ""), 0, test.wrong ? 1 : 0);
            if (test.wrong) {
                break;
            }
        }
        Check.end();
    }

    private int pick(int from, int to) {
        return from + random.nextInt(to - from + 1);
    }

    private boolean chance(int percent) {
        return random.nextInt(100) < percent;
    }

    // ---- texts

    private String blank() {
        return chance(15) ? "  " : " ";
    }

    private String rowText() {
        StringBuilder text = new StringBuilder();
        int persons = chance(10) ? pick(6, 8) : chance(80) ? pick(2, 5) : pick(0, 1);
        // mostly a crowd with patience, as little happens between two that never meet
        int spread = new int[] {0, 1, 5, 20, 60, 999}[pick(0, 5)];
        boolean patient = chance(75);
        int shortest = chance(50) ? 1 : 20;
        for (int person = 0; person < persons; person++) {
            text.append("person").append(blank()).append(pick(0, spread)).append(blank())
                .append(pick(0, 99)).append(blank()).append(pick(0, 9)).append(blank())
                .append(pick(shortest, chance(70) ? shortest + 9 : 60)).append(blank())
                .append(patient ? pick(200, 999) : pick(1, 60)).append(chance(10) ? " ;" : ";");
        }
        int others = persons == 0 ? 0 : pick(0, 12);
        for (int i = 0; i < others && text.length() < 480; i++) {
            int one = pick(0, persons - 1);
            int kind = pick(0, 5);
            if (kind == 0 && persons > 1) {
                text.append("knows ").append(one).append(' ').append((one + pick(1, persons - 1)) % persons).append(';');
            } else if (kind == 1) {
                text.append("until ").append(one).append(' ').append(chance(50) ? pick(0, 5) : pick(0, 99)).append(';');
            } else {
                text.append("way ").append(one).append(' ').append(pick(1, 4)).append(';');
            }
        }
        return text.toString();
    }

    private String sum(int depth) {
        if (depth == 0 || chance(40)) {
            return chance(35) ? Integer.toString(chance(80) ? pick(0, 20) : pick(0, 9999)) : SIMPLE[pick(0, 6)];
        }
        if (chance(25)) {
            return "(" + sum(depth - 1) + ")";
        }
        return sum(depth - 1) + new String[] {"+", "-", "*", "/", " - ", " / "}[pick(0, 5)] + sum(depth - 1);
    }

    private String claim(int depth) {
        if (depth == 0 || chance(40)) {
            return sum(2) + new String[] {"<", ">", "=", " > "}[pick(0, 3)] + sum(2);
        }
        return switch (pick(0, 3)) {
            case 0 -> "not " + claim(depth - 1);
            case 1 -> "[" + claim(depth - 1) + "]";
            case 2 -> claim(depth - 1) + " or " + claim(depth - 1);
            default -> claim(depth - 1) + " and " + claim(depth - 1);
        };
    }

    private String rule() {
        return switch (pick(0, 9)) {
            case 0 -> "due " + (chance(70) ? pick(1, 9) : pick(1, 99));
            case 1, 2 -> "times " + (chance(70) ? pick(1, 3) : pick(1, 9));
            case 3 -> "bell " + (chance(40) ? pick(0, 90) : pick(0, 999));
            case 4 -> "shut " + (chance(40) ? pick(0, 100) : pick(0, 999));
            case 5 -> "bow " + pick(0, 9);
            case 6 -> "lapse " + (chance(60) ? pick(1, 30) : pick(1, 999));
            case 7, 8 -> "worth " + sum(3);
            default -> "must " + claim(3);
        };
    }

    private String lawText() {
        StringBuilder text = new StringBuilder();
        int rules = chance(8) ? pick(8, 10) : pick(0, 5);
        for (int i = 0; i < rules; i++) {
            String rule = rule();
            if (text.length() + rule.length() < 498) {
                text.append(rule).append(chance(10) ? " ; " : ";");
            }
        }
        return text.toString();
    }

    /** Texts that are nearly good. */
    private String spoiled(String text) {
        StringBuilder bytes = new StringBuilder(text);
        int changes = pick(1, 3);
        String signs = " ;0159()[]<>=+-*/abnotrd\u0000\u00ff\t,";
        for (int i = 0; i < changes && bytes.length() > 0; i++) {
            int at = pick(0, bytes.length() - 1);
            char sign = signs.charAt(pick(0, signs.length() - 1));
            switch (pick(0, 3)) {
                case 0 -> bytes.setCharAt(at, sign);
                case 1 -> bytes.deleteCharAt(at);
                case 2 -> bytes.insert(at, sign);
                default -> bytes.setLength(at);
            }
        }
        return bytes.length() > 500 ? bytes.substring(0, 500) : bytes.toString();
    }

    private String tooLongRow() {
        String person = "person0 0 0 1 1;";
        return chance(50) ? person.repeat(pick(7, 9)) : person + "way0 0;".repeat(pick(38, 41)) + (chance(50) ? "x" : "");
    }

    private String deep() {
        StringBuilder text = new StringBuilder();
        for (int i = pick(4, 8); i > 0; i--) {
            text.append(chance(50) ? "not " : "[");
        }
        return text.append("(".repeat(pick(0, 2))).append(claim(1)).append(chance(50) ? "]" : ";").toString();
    }

    private void giveText(boolean row) {
        if (chance(15)) {
            feedText(row, spoiled(row ? rowText() : lawText()));
        }
        if (chance(5)) {
            feedText(row, row ? tooLongRow() : chance(50) ? "bow 1;".repeat(pick(9, 11)) : "must " + deep());
        }
        feedText(row, row ? rowText() : lawText());
    }

    private void feedText(boolean row, String text) {
        if (text.length() > 500) {
            return;
        }
        told.append(row ? "ROW " : "LAW ").append(text).append('\n');
        if (model.count(2) > 0) {
            ask(row ? 1 : 2, 0);
        }
        byte[] bytes = java.util.Arrays.copyOf(text.getBytes(java.nio.charset.StandardCharsets.ISO_8859_1),
            (text.length() + 19) / 20 * 20);
        java.nio.ByteBuffer numbers = java.nio.ByteBuffer.wrap(bytes);
        while (numbers.hasRemaining()) {
            ask(0, numbers.getInt(), numbers.getInt(), numbers.getInt(), numbers.getInt(), numbers.getInt());
        }
        ask(row ? 1 : 2, text.length());
        ask(3);
    }

    // ---- calls

    private void goThrough() {
        giveText(true);
        giveText(false);
        lookAtAll();
        while (calls < CALLS - 60 && !wrong) {
            if (chance(3)) {
                giveText(chance(40));
            } else if (chance(1)) {
                lookAtAll();
            } else {
                oneCall();
            }
        }
    }

    /** Every question about the DAY as it is. */
    private void lookAtAll() {
        for (int what = 0; what <= 6; what++) {
            ask(10, what);
        }
        int persons = model.told(0);
        for (int k = 0; k < model.day(0); k++) {
            for (int what = 0; what <= 4; what++) {
                ask(11, k, what);
            }
            ask(12, k, model.call(k, 2));
            ask(12, k, model.call(k, 2) + 1);
            ask(12, k, 1);
        }
        for (int person = 0; person < persons; person++) {
            ask(13, person);
            ask(14, person);
            ask(23, person, upTo(4));
            ask(15, person, pick(0, persons - 1));
            ask(16, person, pick(0, persons - 1));
        }
    }

    private int person() {
        int persons = model.told(0);
        return chance(4) ? WILD[pick(0, WILD.length - 1)] : persons == 0 ? 0 : pick(0, persons - 1);
    }

    private int upTo(int most) {
        return chance(4) ? WILD[pick(0, WILD.length - 1)] : pick(0, most);
    }

    private void oneCall() {
        int kind = pick(0, NAMES.length - 1);
        boolean slow = kind >= 24 && kind <= 27 || kind == 22;
        // the model takes its time for these
        if (slow && (!chance(15) || model.told(0) > 3 && !chance(5) || model.told(1) > 6 && !chance(5))) {
            return;
        }
        switch (kind) {
            case 0 -> {
                if (chance(10)) {
                    ask(0, random.nextInt(), random.nextInt(), random.nextInt(), random.nextInt(), random.nextInt());
                }
            }
            case 1, 2 -> {
                if (chance(2)) {
                    ask(kind, upTo(40));
                    ask(3);
                }
            }
            case 4, 10 -> ask(kind, upTo(7));
            case 5 -> ask(kind, person(), upTo(7));
            case 6, 23 -> ask(kind, person(), upTo(4));
            case 7 -> ask(kind, person(), chance(50) ? upTo(6) : upTo(99));
            case 8, 9 -> ask(kind, person(), person(), upTo(16));
            case 11 -> ask(kind, upTo(7), upTo(4));
            case 12 -> ask(kind, upTo(5), chance(50) ? upTo(8) : upTo(80));
            case 13, 14, 17 -> ask(kind, person());
            case 15, 16 -> ask(kind, person(), person());
            case 20 -> ask(kind, upTo(5), person(), upTo(4));
            case 21 -> ask(kind, person(), chance(50) ? upTo(15) : upTo(1023));
            case 22 -> ask(kind, person(), upTo(1));
            case 24, 25, 26 -> ask(kind, upTo(1));
            case 30 -> ask(kind, upTo(3));
            default -> ask(kind);
        }
    }

    private interface Answer {
        int get();
    }

    private static String outcome(Answer answer) {
        try {
            return Integer.toString(answer.get());
        } catch (RuntimeException e) {
            return e.getClass().getSimpleName();
        }
    }

    private void ask(int kind, int... a) {
        calls++;
        String due = outcome(() -> askModel(kind, a));
        String got = outcome(() -> askProgram(kind, a));
        told.append(NAMES[kind]).append(java.util.Arrays.toString(a)).append(" -> ").append(got);
        if (!due.equals(got)) {
            told.append(", due is ").append(due);
            wrong = true;
        }
        told.append('\n');
    }

    private int askProgram(int kind, int[] a) {
        return switch (kind) {
            case 0 -> x.feed(a[0], a[1], a[2], a[3], a[4]);
            case 1 -> x.row(a[0]);
            case 2 -> x.law(a[0]);
            case 3 -> x.fault();
            case 4 -> x.told(a[0]);
            case 5 -> x.person(a[0], a[1]);
            case 6 -> x.way(a[0], a[1]);
            case 7 -> x.until(a[0], a[1]);
            case 8 -> x.must(a[0], a[1], a[2]) ? 1 : 0;
            case 9 -> x.worth(a[0], a[1], a[2]);
            case 10 -> x.day(a[0]);
            case 11 -> x.call(a[0], a[1]);
            case 12 -> x.holder(a[0], a[1]);
            case 13 -> x.ends(a[0]);
            case 14 -> x.balance(a[0]);
            case 15 -> x.book(a[0], a[1]);
            case 16 -> x.owed(a[0], a[1]);
            case 17 -> x.tell(a[0]);
            case 18 -> x.forget();
            case 19 -> x.judge();
            case 20 -> x.again(a[0], a[1], a[2]);
            case 21 -> x.plan(a[0], a[1]);
            case 22 -> x.best(a[0], a[1]);
            case 23 -> x.gain(a[0], a[1]);
            case 24 -> x.rest(a[0]);
            case 25 -> x.polite(a[0]);
            case 26 -> x.struck(a[0]);
            case 27 -> x.hopeless();
            case 28 -> x.image();
            case 29 -> x.restore();
            default -> x.count(a[0]);
        };
    }

    private int askModel(int kind, int[] a) {
        return switch (kind) {
            case 0 -> model.feed(a[0], a[1], a[2], a[3], a[4]);
            case 1 -> model.row(a[0]);
            case 2 -> model.law(a[0]);
            case 3 -> model.fault();
            case 4 -> model.told(a[0]);
            case 5 -> model.person(a[0], a[1]);
            case 6 -> model.way(a[0], a[1]);
            case 7 -> model.until(a[0], a[1]);
            case 8 -> model.must(a[0], a[1], a[2]);
            case 9 -> model.worth(a[0], a[1], a[2]);
            case 10 -> model.day(a[0]);
            case 11 -> model.call(a[0], a[1]);
            case 12 -> model.holder(a[0], a[1]);
            case 13 -> model.ends(a[0]);
            case 14 -> model.balance(a[0]);
            case 15 -> model.book(a[0], a[1]);
            case 16 -> model.owed(a[0], a[1]);
            case 17 -> model.tell(a[0]);
            case 18 -> model.forget();
            case 19 -> model.judge();
            case 20 -> model.again(a[0], a[1], a[2]);
            case 21 -> model.plan(a[0], a[1]);
            case 22 -> model.best(a[0], a[1]);
            case 23 -> model.gain(a[0], a[1]);
            case 24 -> model.rest(a[0]);
            case 25 -> model.polite(a[0]);
            case 26 -> model.struck(a[0]);
            case 27 -> model.hopeless();
            case 28 -> model.image();
            case 29 -> model.restore();
            default -> model.count(a[0]);
        };
    }
}
