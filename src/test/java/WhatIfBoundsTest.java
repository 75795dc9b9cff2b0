/** Terms, what comes of the DAY: BOOK, JUDGED, OVER AGAIN, PLANS, rows of WAYS, RULES left out, at their bounds. */
final class WhatIfBoundsTest {
    private static final String THREE = "person 0 30 1 5 100;person 0 60 2 7 100;person 0 20 0 3 100;";

    public static void main(String[] args) {
        book();
        debts();
        servedRow();
        judged();
        overAgain();
        planTimes();
        planMust();
        planOthers();
        bestPlan();
        gains();
        restRows();
        fiveAtMost();
        firstRest();
        politeOnes();
        firstPolite();
        struckFewest();
        struckLeast();
        struckAsTold();
        noSetDoes();
        hopelessOnes();
        Check.end();
    }

    private static String same(int errand, int patience, int many) {
        return ("person 0 0 0 " + errand + " " + patience + ";").repeat(many);
    }

    private static void book() {
        Doc.says("BOOK: PASSES of the DAY by pairs: what all together are worth (lapsed ones, too).");
        BowingRow x = Check.with(same(9, 99, 3) + "way 0 4;", "lapse 1;worth 99;");
        Check.same("balance of lapsed ones", 0, x.balance(0));
        Check.same("book of a lapsed one", 99, x.book(0, 1));
        Check.same("book of another lapsed one", 99, x.book(0, 2));
        Check.same("the other way round", 0, x.book(1, 0));
        Check.same("of one to itself", 0, x.book(0, 0));
        Check.same("of a pair with none", 0, x.book(1, 2));
        // PASSES of the DAY: those of a DAY that is no more don't count
        x.way(0, 2);
        x.until(0, 99);
        Check.same("only until 99", 99, x.book(0, 1));
        Check.law(x, "worth 99;");
        Check.same("not any more", 0, x.book(0, 2));
        Check.same("passes of the day", 1, x.day(3));
    }

    private static void debts() {
        Doc.says("DEBTS, set off: of two the greater less the lesser; then as long as three owe one another in a round"
            + " (a to b, b to c, c to a; the first such a, b, c by number, a the least)"
            + " the least of these three is taken off all three.");
        // who is let pass is SERVED ahead of its giver: no DAY has a round, nor two that owe one another,
        // so three that would be a round, but for one debt, must stay as they are
        BowingRow x = Check.with("person 0 3 0 1 99;person 0 2 0 1 99;person 0 1 0 1 99;",
            "must not older>age;worth age*10+older;lapse 1;");
        int[][] due = {{0, 32, 31}, {0, 0, 21}, {0, 0, 0}};
        for (int person = 0; person < 3; person++) {
            for (int other = 0; other < 3; other++) {
                Check.same("owed(" + person + ", " + other + ")", due[person][other], x.owed(person, other));
                Check.same("book(" + person + ", " + other + ")", due[person][other], x.book(person, other));
            }
        }
        // told in another order than they stand there: 2, 1, 0
        Check.row(x, "person 3 1 0 1 99;person 2 2 0 1 99;person 1 3 0 1 99;person 0 0 0 5 99;");
        int[][] turned = {{0, 0, 0}, {21, 0, 0}, {31, 32, 0}};
        for (int person = 0; person < 3; person++) {
            for (int other = 0; other < 3; other++) {
                Check.same("turned owed(" + person + ", " + other + ")", turned[person][other], x.owed(person, other));
            }
        }
    }

    private static void servedRow() {
        Doc.says("A SERVED ROW told: PERSONS one by one, 8 at most:");
        BowingRow x = Check.with(same(1, 99, 8), "");
        for (int person = 0; person < 8; person++) {
            Check.same("tell(" + person + ")", person + 1, x.tell(person));
        }
        Check.same("eight told, eight calls", -1, x.judge());
        Check.same("a ninth", -1, x.tell(0));
        Check.same("eight stay", 8, x.count(0));
        Check.same("the last of eight", -1, x.judge());
        x.way(6, 4);
        Check.same("the last two change", 6, x.judge());
    }

    private static void judged() {
        Doc.says("JUDGED: the first that is not the one of that CALL (NONE; more than there are CALLS: the first beyond).");
        BowingRow x = Check.with(THREE, "");
        Check.same("none told", -1, x.judge());
        x.tell(0);
        Check.same("one right", -1, x.judge());
        x.tell(1);
        x.tell(2);
        Check.same("all right", -1, x.judge());
        x.tell(0);
        Check.same("one beyond", 3, x.judge());
        x.tell(1);
        Check.same("two beyond: the first of them", 3, x.judge());
        x.forget();
        x.tell(1);
        x.tell(0);
        Check.same("the first of two wrong ones", 0, x.judge());
        x.forget();
        x.tell(0);
        x.tell(1);
        x.tell(1);
        x.tell(1);
        Check.same("a wrong one ahead of the first beyond", 2, x.judge());
        Check.law(x, "shut 0;");
        Check.same("no call at all", 0, x.judge());
        x.forget();
        Check.same("no call and none told", -1, x.judge());
        Check.law(x, "must 1=1;");
        x.tell(0);
        Check.same("an endless call is nobody's", 0, x.judge());
    }

    private static void overAgain() {
        Doc.says("OVER AGAIN: the DAY, but from CALL k on (0 the first) a PERSON has another WAY.");
        BowingRow x = Check.with(THREE, "");
        // 0, 1, 2, at minutes 0, 5, 12; 1 is asked in call 1
        Check.same("from its very call on", 15, x.again(1, 1, 4));
        Check.same("from the first call on", 15, x.again(0, 1, 4));
        Check.same("from behind its call on", 12, x.again(2, 1, 4));
        Check.same("from behind all calls on", 12, x.again(3, 1, 4));
        Check.same("from the greatest k on", 12, x.again(Integer.MAX_VALUE, 1, 4));
        Check.same("the way that it has", 12, x.again(0, 1, 0));
        x.way(0, 4);
        x.way(2, 4);
        // 1, then 0 and 2 bow for ever
        Check.same("as it is", -1, x.ends(0));
        Check.same("another way from the first call on", 5, x.again(0, 0, 0));
        Check.same("another way from the second call on", 12, x.again(1, 0, 0));
        Check.same("another way behind the endless call", -1, x.again(2, 0, 0));
        Check.same("nothing has changed", 4, x.person(0, 5));
        Check.same("nor has the day", -1, x.ends(0));
    }

    private static void planTimes() {
        Doc.says("PLAN of one: bits: the i-th time (0 to 9) that it has the PLACE",
            "it OFFERS, if bit i is 1, else GOES; later it GOES;");
        // 1 has the place nine times in the first call, then in front of 2 as often as it likes
        BowingRow x = Check.with(THREE + "way 0 4;way 2 4;", "times 9;bow 1;");
        Check.same("bit 0 is 0", 1 + 7, x.plan(1, 0));
        Check.same("bit 0 is 0, all others are 1", 1 + 7, x.plan(1, 1022));
        Check.same("bit 0 is 1", 4 + 7, x.plan(1, 1));
        Check.same("bit 1 is 0, all others are 1", 4 + 7, x.plan(1, 1021));
        Check.same("bits 0 to 7 are 1", 25 + 7, x.plan(1, 255));
        // nine offers each, and the first one goes: 27 and 5 minutes, then bit 9
        Check.same("bits 0 to 8 are 1", 32 + 7, x.plan(1, 511));
        Check.same("bits 0 to 9 are 1, later it goes", 32 + 2 + 7, x.plan(1, 1023));
        // bits are counted on from CALL to CALL
        BowingRow y = Check.with(THREE, "");
        Check.same("first time", 5, y.plan(0, 2));
        Check.same("second time", 12, y.plan(0, 1));
        Check.same("both times", 15, y.plan(0, 3));
    }

    private static void planMust() {
        Doc.says("and neither must GO nor must OFFER");
        BowingRow x = Check.with(THREE, "must older>age;");
        // 0 must offer to 1 in call 0; in call 1 bit 0 counts
        Check.same("must offer takes no bit", 12, x.plan(0, 0));
        Check.same("bit 1 never counts", 12, x.plan(0, 2));
        Check.same("bit 0 counts later", -1, x.plan(0, 1));
        Check.law(x, "bell 7;");
        // from minute 7 on it must go
        Check.same("must go takes no bit", 12, x.plan(0, 1023));
        Check.same("ahead of the bell", 5, x.plan(0, 0));
        Check.law(x, "times 1;bow 1;");
        x.way(1, 4);
        x.way(2, 4);
        Check.same("it must go when it offered times", 3 + 5, x.plan(0, 1));
        Check.same("and takes no second bit", 3 + 5, x.plan(0, 3));
        // alone it must go
        Check.row(x, "person 0 0 0 1 9;");
        Check.same("alone", 1, x.plan(0, 1023));
    }

    private static void planOthers() {
        Doc.says("all others by their WAYS.");
        BowingRow x = Check.with(THREE + "way 0 4;way 1 4;", "");
        Check.same("its own way does not count", 5, x.plan(0, 0));
        Check.same("others' ways do", 7, x.plan(1, 0));
        Check.same("others bow for ever with it", -1, x.plan(2, 1023));
        Check.same("others let it go", 3, x.plan(2, 0));
    }

    private static void bestPlan() {
        Doc.says("BEST PLAN: by which its ERRAND ends first; of these the least (not SERVED: 9,999).");
        BowingRow x = Check.with(THREE + "way 0 4;way 1 4;", "");
        for (int person = 0; person < 3; person++) {
            Check.same("the least of the best of " + person, 0, x.best(person, 0));
        }
        Check.same("best end of 0", 5, x.best(0, 1));
        Check.same("best end of 1", 7, x.best(1, 1));
        Check.same("best end of 2", 3, x.best(2, 1));
        Check.law(x, "must 1=1;");
        Check.same("all plans alike, the least", 0, x.best(0, 0));
        Check.same("never served", -1, x.best(0, 1));
    }

    private static void gains() {
        Doc.says("GAIN of a WAY of one: by how much sooner its ERRAND ends, than as it is.");
        BowingRow x = Check.with(THREE, "");
        Check.same("as it is", 0, x.gain(0, 0));
        Check.same("later", -10, x.gain(0, 4));
        x.way(0, 4);
        Check.same("sooner", 10, x.gain(0, 0));
        Check.same("as late", 0, x.gain(0, 4));
        x.way(1, 4);
        x.way(2, 4);
        Check.same("from never", 9999 - 5, x.gain(0, 0));
        Check.same("from never to never", 0, x.gain(0, 4));
        x.way(0, 0);
        Check.same("to never", 5 - 9999, x.gain(0, 4));
    }

    private static void restRows() {
        Doc.says("REST: a row of WAYS (of 0 to 4, for all PERSONS: 5 at most) by which nobody's ERRAND would end sooner,"
            + " if it alone had another WAY (not SERVED: 9,999): how many such rows there are;");
        BowingRow x = new BowingRow();
        Check.same("the one row of nobody", 1, x.rest(0));
        Check.row(x, same(1, 9, 1));
        Check.same("one has five", 5, x.rest(0));
        Check.row(x, same(1, 9, 2));
        // 0 goes by 0, 1 and 3; as late would do, too
        Check.same("two", 3 * 5, x.rest(0));
        // to an older one whom it knows only 0 does not offer
        Check.row(x, "person 0 1 0 1 9;person 0 2 0 1 9;knows 0 1;");
        Check.same("two, only by 0", 5, x.rest(0));
        Check.law(x, "shut 0;");
        Check.same("nobody is served: as late either way", 25, x.rest(0));
        Check.law(x, "bell 0;");
        Check.same("all go", 25, x.rest(0));
    }

    private static void fiveAtMost() {
        Doc.says("(of 0 to 4, for all PERSONS: 5 at most)");
        BowingRow x = Check.with(same(1, 99, 5), "bell 0;");
        Check.same("five", 3125, x.rest(0));
        Check.same("five", 0, x.rest(1));
        Check.same("five", 0, x.polite(0));
        Check.same("five", 15, x.polite(1));
        Check.row(x, same(1, 99, 6));
        Check.fails("rest of six", IllegalStateException.class, () -> x.rest(0));
        Check.fails("polite of six", IllegalStateException.class, () -> x.polite(0));
        Check.row(x, same(1, 99, 8));
        Check.fails("rest of eight", IllegalStateException.class, () -> x.rest(1));
        Check.fails("polite of eight", IllegalStateException.class, () -> x.polite(1));
        Check.row(x, same(1, 99, 4));
        Check.same("four again", 625, x.rest(0));
    }

    private static void firstRest() {
        Doc.says("the first (digits to the base 5, PERSON 0 the highest).");
        // way 0 is never worse than another one, so the first is always that of all 0
        BowingRow x = new BowingRow();
        Check.same("nobody", 0, x.rest(1));
        Check.row(x, THREE + "way 0 4;way 1 3;way 2 2;");
        Check.same("three", 0, x.rest(1));
        Check.law(x, "must 1=1;");
        Check.same("nobody is served", 0, x.rest(1));
    }

    private static void politeOnes() {
        Doc.says("POLITE ONES: the row of WAYS by which ERRANDS of all end soonest together (9,999 each of those not SERVED),"
            + " of these the first.");
        BowingRow x = Check.with("person 0 9 0 9 99;person 0 0 0 1 99;", "");
        // 0 lets 1 pass: by 2 first
        Check.same("digits, person 0 the highest", 2 * 5, x.polite(0));
        Check.same("all together", 1 + 10, x.polite(1));
        Check.law(x, "shut 1;");
        Check.same("one is not served", 1 + 9999, x.polite(1));
        Check.same("by whom the other one goes", 2 * 5, x.polite(0));
        Check.law(x, "shut 0;");
        Check.same("none is served", 2 * 9999, x.polite(1));
        Check.same("all alike: the first", 0, x.polite(0));
        Check.law(x, "must 1=1;");
        Check.same("endless", 2 * 9999, x.polite(1));
        Check.row(x, same(60, 99, 5));
        Check.same("five of them", 5 * 9999, x.polite(1));
    }

    private static void firstPolite() {
        Doc.says("of these the first.");
        BowingRow x = Check.with("person 0 0 0 9 99;person 0 0 0 9 99;person 0 0 0 1 99;", "");
        for (int person = 0; person < 3; person++) {
            x.until(person, 1);
        }
        // 0 and 1 let 2 pass by way 2, once
        Check.same("all together", 1 + 10 + 19, x.polite(1));
        Check.same("2, 2, 0", 2 * 25 + 2 * 5, x.polite(0));
        x.until(1, 0);
        // by way 2 person 1 lets nobody pass any more, by 4 it does
        Check.same("all together by 4", 1 + 10 + 19, x.polite(1));
        Check.same("2, 4, 0", 2 * 25 + 4 * 5, x.polite(0));
    }

    private static void struck(String law, int bits, int many) {
        BowingRow x = Check.with(THREE, law);
        Check.same("struck(0) by " + law, bits, x.struck(0));
        Check.same("struck(1) by " + law, many, x.struck(1));
    }

    private static void struckFewest() {
        Doc.says("the fewest that, left out, let all PERSONS be SERVED:", "0: none need);");
        struck("", 0, 0);
        struck("bow 9;", 0, 0);
        struck("shut 13;", 0, 0);
        struck("shut 12;", 1, 1);
        struck("shut 1;shut 1;", 3, 2);
        // one of a greater number is fewer than two of a lesser
        struck("shut 13;bow 3;bow 3;times 9;must 1=1;", 16, 1);
        struck("bow 0;".repeat(9) + "shut 12;", 512, 1);
        struck("shut 12;".repeat(10), 1023, 10);
        // with nobody there all are served
        BowingRow x = Check.with("", "shut 0;");
        Check.same("struck(0) of nobody", 0, x.struck(0));
        Check.same("struck(1) of nobody", 0, x.struck(1));
    }

    private static void struckLeast() {
        Doc.says("of these sets the least (bits;");
        // 0 must offer to 1; by bows the last one comes at minute 12 and one bow
        BowingRow x = Check.with(THREE, "shut 20;bow 9;must older>age;");
        Check.same("one of three", 1, x.struck(0));
        Check.law(x, "bow 9;shut 20;must older>age;");
        Check.same("one of three, otherwise told", 1, x.struck(0));
        Check.law(x, "times 1;must older>age;shut 20;bow 9;");
        Check.same("the second of four", 2, x.struck(0));
        Check.same("only one", 1, x.struck(1));
    }

    private static void struckAsTold() {
        Doc.says("STRUCK: of RULES as told (by number, each text's place)");
        // where the last of one word is left out, the one ahead of it counts
        struck("shut 12;shut 999;", 0, 0);
        struck("shut 999;shut 12;", 2, 1);
        struck("shut 12;shut 12;", 3, 2);
        struck("must 1=1;must 1=2;must 1=1;", 4, 1);
        struck("must 1=1;bow 1;must 1=1;", 5, 2);
        struck("times 1;must 1=1;", 0, 0);
        struck("must 1=1;times 1;shut 12;", 4, 1);
        // 0 takes long, and if it goes ahead of 2, 2 goes away; it does, when it is due
        BowingRow x = Check.with("person 0 0 0 60 99;person 0 0 0 1 9;person 0 0 0 1 9;way 0 4;", "worth 1;worth 5;due 5;");
        Check.same("by the worth ahead of the last", 2, x.struck(0));
        Check.law(x, "worth 5;worth 1;due 5;");
        Check.same("by the last worth", 0, x.struck(0));
        Check.law(x, "worth 5;due 5;");
        Check.same("by no worth", 1, x.struck(0));
        // what one text's RULE said is not said of another text's RULE of that number
        Check.law(x, "bow 0;must 1=2;");
        Check.same("a must that never holds", 0, x.struck(0));
        Check.law(x, "bow 0;must 1=1;");
        Check.same("one that holds in its place", 2, x.struck(0));
        Check.law(x, "due 5;worth 1;");
        Check.same("a worth below due", 0, x.struck(0));
        Check.law(x, "due 5;worth 5;");
        Check.same("one as much as due in its place", 1, x.struck(0));
    }

    private static void noSetDoes() {
        Doc.says("NONE: no set does;");
        BowingRow x = Check.with(same(60, 9, 2), "");
        Check.same("struck(0) without rules", -1, x.struck(0));
        Check.same("struck(1) without rules", -1, x.struck(1));
        Check.law(x, "shut 5;".repeat(10));
        Check.same("struck(0) with ten", -1, x.struck(0));
        Check.same("struck(1) with ten", -1, x.struck(1));
    }

    private static void hopelessOnes() {
        Doc.says("HOPELESS: who is not SERVED, whatever is left out (bits).");
        BowingRow x = new BowingRow();
        Check.same("nobody there", 0, x.hopeless());
        Check.row(x, same(1, 99, 8));
        Check.same("all served", 0, x.hopeless());
        Check.law(x, "shut 0;".repeat(10));
        Check.same("all served without ten rules", 0, x.hopeless());
        for (int person = 0; person < 8; person++) {
            x.way(person, 4);
        }
        Check.same("all bow for ever", 255, x.hopeless());
        x.way(7, 0);
        Check.same("all but one", 127, x.hopeless());
        // served with one set each, but never both: not hopeless, though no set does
        Check.row(x, "person 0 1 0 60 9;person 0 2 0 60 9;");
        Check.law(x, "must older>age;");
        Check.same("either is served by some set", 0, x.hopeless());
        Check.same("but no set does", -1, x.struck(0));
    }
}
