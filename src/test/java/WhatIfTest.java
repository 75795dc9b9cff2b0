import java.util.NoSuchElementException;

/** Promises 22 to 29: DAYS told over again, PLANS, GAINS, rows of WAYS, RULES left out. */
final class WhatIfTest {
    private static final String THREE_AT_ONCE =
        "person 0 30 1 5 100;person 0 60 2 7 100;person 0 20 0 3 100;";
    private static final String TWO = "person 0 30 1 10 100;person 0 60 2 1 100;";
    private static final String SIX = "person 0 0 0 1 99;".repeat(6);

    public static void main(String[] args) {
        again();
        plans();
        plansUnderMust();
        plansUnderTimes();
        best();
        gains();
        rests();
        polite();
        tooMany();
        struck();
        hopeless();
        nothingChanges();
        wrongOnes();
        Check.end();
    }

    private static void again() {
        BowingRow x = Check.with(THREE_AT_ONCE, "");
        Check.same("again(0, 0, 4)", 15, x.again(0, 0, 4));
        Check.same("again(1, 0, 4)", 5, x.again(1, 0, 4));
        Check.same("again(0, 1, 4)", 15, x.again(0, 1, 4));
        Check.same("again(1, 1, 4)", 15, x.again(1, 1, 4));
        Check.same("again(2, 1, 4)", 12, x.again(2, 1, 4));
        Check.same("again(MAX, 1, 4)", 12, x.again(Integer.MAX_VALUE, 1, 4));
        x.way(0, 4);
        // 1 is let pass, then 0 goes
        Check.same("again(1, 0, 0)", 12, x.again(1, 0, 0));
        Check.same("again(0, 0, 0)", 5, x.again(0, 0, 0));
        x.way(1, 4);
        Check.same("again without an end", -1, x.again(0, 2, 4));
    }

    private static void plan(BowingRow x, int person, int bits, int due) {
        Check.same("plan(" + person + ", " + bits + ")", due, x.plan(person, bits));
    }

    private static void plans() {
        BowingRow x = Check.with(THREE_AT_ONCE, "");
        plan(x, 0, 0, 5);
        plan(x, 0, 1, 12);
        plan(x, 0, 2, 5);
        plan(x, 0, 3, 15);
        plan(x, 0, 5, 12);
        plan(x, 0, 1023, 15);
        plan(x, 1, 0, 12);
        plan(x, 1, 1, 15);
        plan(x, 2, 1023, 15);
        x.way(1, 4);
        x.way(2, 4);
        plan(x, 0, 0, 5);
        plan(x, 0, 1, -1);
        // a plan stands in place of the way
        x.way(0, 4);
        plan(x, 0, 0, 5);
        plan(x, 1, 0, 7);
    }

    private static void plansUnderMust() {
        BowingRow x = Check.with(THREE_AT_ONCE, "must older>age;");
        // the first offer is due by law and takes no bit
        plan(x, 0, 0, 12);
        plan(x, 0, 2, 12);
        // it offers to 2, who must offer to the older 0 that had the place
        plan(x, 0, 1, -1);
        BowingRow bell = Check.with(THREE_AT_ONCE, "bell 7;");
        plan(bell, 0, 1, 12);
        plan(bell, 0, 3, 12);
    }

    private static void plansUnderTimes() {
        BowingRow x = Check.with(THREE_AT_ONCE + "way 1 4;way 2 4;", "times 2;bow 1;");
        plan(x, 0, 0, 5);
        plan(x, 0, 1, 8);
        plan(x, 0, 2, 5);
        plan(x, 0, 3, 11);
        plan(x, 0, 1023, 11);
        BowingRow y = Check.with(THREE_AT_ONCE + "way 0 4;way 2 4;", "times 9;bow 1;");
        plan(y, 1, 0, 8);
        plan(y, 1, 511, 39);
        // ten times it offers, nine in the first call and once in the second; later it goes
        plan(y, 1, 1023, 41);
    }

    private static void best() {
        BowingRow x = Check.with(THREE_AT_ONCE + "way 0 4;", "");
        Check.same("best(0, 0)", 0, x.best(0, 0));
        Check.same("best(0, 1)", 5, x.best(0, 1));
        Check.same("best(1, 1)", 7, x.best(1, 1));
        x.way(0, 0);
        Check.same("best(2, 1)", 15, x.best(2, 1));
        BowingRow gone = Check.with("person 0 0 0 60 9;person 1 0 0 1 9;", "");
        Check.same("best(1, 0) of who is never served", 0, gone.best(1, 0));
        Check.same("best(1, 1) of who is never served", -1, gone.best(1, 1));
        BowingRow must = Check.with(THREE_AT_ONCE, "must 1=1;");
        Check.same("best(0, 1) without an end", -1, must.best(0, 1));
    }

    private static void gains() {
        BowingRow x = Check.with(THREE_AT_ONCE, "");
        Check.same("gain(0, 4)", -10, x.gain(0, 4));
        Check.same("gain(0, 0)", 0, x.gain(0, 0));
        Check.same("gain(1, 4)", -3, x.gain(1, 4));
        x.way(1, 4);
        x.way(2, 4);
        Check.same("gain(0, 4) to never", 5 - 9999, x.gain(0, 4));
        x.way(0, 4);
        Check.same("gain(0, 0) from never", 9999 - 5, x.gain(0, 0));
        Check.same("gain(0, 4) as it is", 0, x.gain(0, 4));
    }

    private static void rests() {
        BowingRow x = Check.with("person 0 1 1 5 9;", "");
        Check.same("rest(0) of one", 5, x.rest(0));
        Check.same("rest(1) of one", 0, x.rest(1));
        // 0 had better go, by way 0 or, knowing nobody, 1; then 1 may have any way
        Check.row(x, TWO);
        Check.same("rest(0) of two", 10, x.rest(0));
        Check.same("rest(1) of two", 0, x.rest(1));
        // who knows the other one offers by way 1, too
        Check.row(x, TWO + "knows 0 1;");
        Check.same("rest(0) of two who know one another", 5, x.rest(0));
        // with until 0 way 2 goes, too
        x.until(0, 0);
        Check.same("rest(0) with another until", 10, x.rest(0));
        x.way(0, 4);
        Check.same("rest(0) is not of the ways as they are", 10, x.rest(0));
        Check.law(x, "bell 0;");
        Check.same("rest(0) when all must go", 25, x.rest(0));
        Check.law(x, "must 1=1;");
        Check.same("rest(0) when nobody is served", 25, x.rest(0));
    }

    private static void polite() {
        BowingRow x = Check.with("person 0 1 1 5 9;", "");
        Check.same("polite(0) of one", 0, x.polite(0));
        Check.same("polite(1) of one", 5, x.polite(1));
        Check.row(x, TWO);
        Check.same("polite(0) of two", 10, x.polite(0));
        Check.same("polite(1) of two", 12, x.polite(1));
        Check.row(x, TWO + "knows 0 1;");
        Check.same("polite(0) of two who know one another", 5, x.polite(0));
        Check.law(x, "must 1=1;");
        Check.same("polite(0) when nobody is served", 0, x.polite(0));
        Check.same("polite(1) when nobody is served", 2 * 9999, x.polite(1));
        BowingRow five = Check.with("person 0 0 0 9 99;".repeat(4) + "person 0 0 0 1 99;", "");
        // all ahead of the last one let it pass, then nobody does: but who lets one pass once by way 2 does so
        // until its balance is 3, so until stands at 1
        for (int person = 0; person < 5; person++) {
            five.until(person, 1);
        }
        Check.same("polite(1) of five", 1 + 10 + 19 + 28 + 37, five.polite(1));
        Check.same("polite(0) of five", 2 * 625 + 2 * 125 + 2 * 25 + 2 * 5, five.polite(0));
    }

    private static void tooMany() {
        BowingRow x = Check.with(SIX, "");
        Check.fails("rest(0) of six", IllegalStateException.class, () -> x.rest(0));
        Check.fails("rest(1) of six", IllegalStateException.class, () -> x.rest(1));
        Check.fails("rest(2) of six", IllegalArgumentException.class, () -> x.rest(2));
        Check.fails("polite(0) of six", IllegalStateException.class, () -> x.polite(0));
        Check.fails("polite(1) of six", IllegalStateException.class, () -> x.polite(1));
        Check.fails("polite(-1) of six", IllegalArgumentException.class, () -> x.polite(-1));
    }

    private static void struck(BowingRow x, int bits, int many) {
        Check.same("struck(0)", bits, x.struck(0));
        Check.same("struck(1)", many, x.struck(1));
    }

    private static void struck() {
        BowingRow x = Check.with(THREE_AT_ONCE, "bow 0;");
        struck(x, 0, 0);
        Check.law(x, "bow 0;shut 12;");
        struck(x, 2, 1);
        Check.law(x, "bow 0;shut 13;");
        struck(x, 0, 0);
        // without the last shut the one ahead of it counts
        Check.law(x, "bow 0;shut 5;shut 12;");
        struck(x, 6, 2);
        Check.law(x, "must 1=1;must 1=2;must 1=1;");
        struck(x, 4, 1);
        // what the first must said is not said any more
        Check.law(x, "must 1=2;");
        struck(x, 0, 0);
        Check.law(x, "must 1=1;");
        struck(x, 1, 1);
        // the bows make the last one late: of two sets of one the least
        Check.law(x, "must older>age;bow 9;shut 20;");
        struck(x, 1, 1);
        x.way(0, 3);
        struck(x, 2, 1);
        x.way(0, 0);
        Check.law(x, "shut 1;due 9;");
        struck(x, 1, 1);
        // times left out make a day endless; left in they don't
        x.way(0, 4);
        x.way(1, 4);
        x.way(2, 4);
        Check.law(x, "times 1;");
        struck(x, 0, 0);
        Check.law(x, "");
        struck(x, -1, -1);
    }

    private static void hopeless() {
        BowingRow x = Check.with("person 0 0 0 10 100;person 1 0 0 5 9;person 1 0 0 5 8;", "shut 1;");
        Check.same("hopeless", 4, x.hopeless());
        struck(x, -1, -1);
        Check.law(x, "");
        Check.same("hopeless without rules", 4, x.hopeless());
        // whoever goes first, the other one goes away; but either may be first
        BowingRow y = Check.with("person 0 30 0 60 9;person 0 60 0 60 9;", "must older>age;");
        Check.same("hopeless of two", 0, y.hopeless());
        struck(y, -1, -1);
        Check.law(y, "");
        Check.same("hopeless of two without rules", 2, y.hopeless());
        y.way(0, 3);
        Check.same("hopeless of two by another way", 1, y.hopeless());
    }

    private static void nothingChanges() {
        BowingRow x = Check.with(THREE_AT_ONCE + "way 0 1;knows 0 1;", "shut 6;bow 1;");
        String ahead = state(x);
        x.again(0, 0, 4);
        x.plan(0, 1023);
        x.best(1, 0);
        x.gain(2, 3);
        x.rest(0);
        x.polite(0);
        x.struck(0);
        x.hopeless();
        Check.same("the state after questions", ahead, state(x));
    }

    private static String state(BowingRow x) {
        StringBuilder text = new StringBuilder();
        for (int what = 0; what < 8; what++) {
            text.append(x.told(what)).append(' ').append(x.person(0, what)).append(' ');
        }
        for (int what = 0; what < 7; what++) {
            text.append(x.day(what)).append(' ');
        }
        return text.append(x.ends(0)).append(x.ends(1)).append(x.balance(0)).toString();
    }

    private static void wrongOnes() {
        BowingRow x = Check.with(THREE_AT_ONCE, "");
        Check.fails("again(-1, 0, 0)", IllegalArgumentException.class, () -> x.again(-1, 0, 0));
        Check.fails("again(0, 0, 5)", IllegalArgumentException.class, () -> x.again(0, 0, 5));
        Check.fails("again(0, 0, -1)", IllegalArgumentException.class, () -> x.again(0, 0, -1));
        Check.fails("again(-1, 3, 5)", NoSuchElementException.class, () -> x.again(-1, 3, 5));
        Check.fails("plan(0, -1)", IllegalArgumentException.class, () -> x.plan(0, -1));
        Check.fails("plan(0, 1024)", IllegalArgumentException.class, () -> x.plan(0, 1024));
        Check.fails("plan(3, 1024)", NoSuchElementException.class, () -> x.plan(3, 1024));
        Check.fails("best(0, 2)", IllegalArgumentException.class, () -> x.best(0, 2));
        Check.fails("best(0, -1)", IllegalArgumentException.class, () -> x.best(0, -1));
        Check.fails("best(-1, 2)", NoSuchElementException.class, () -> x.best(-1, 2));
        Check.fails("gain(0, 5)", IllegalArgumentException.class, () -> x.gain(0, 5));
        Check.fails("gain(0, -1)", IllegalArgumentException.class, () -> x.gain(0, -1));
        Check.fails("gain(3, 5)", NoSuchElementException.class, () -> x.gain(3, 5));
        Check.fails("rest(2)", IllegalArgumentException.class, () -> x.rest(2));
        Check.fails("rest(-1)", IllegalArgumentException.class, () -> x.rest(-1));
        Check.fails("polite(2)", IllegalArgumentException.class, () -> x.polite(2));
        Check.fails("struck(2)", IllegalArgumentException.class, () -> x.struck(2));
        Check.fails("struck(-1)", IllegalArgumentException.class, () -> x.struck(-1));
    }
}
