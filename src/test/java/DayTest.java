import java.util.NoSuchElementException;

/** Promises 12 to 18: the DAY, its CALLS, BALANCES, BOOK and DEBTS. */
final class DayTest {
    private static final String THREE_AT_ONCE =
        "person 0 30 1 5 100;person 0 60 2 7 100;person 0 20 0 3 100;";

    public static void main(String[] args) {
        comeAndGo();
        patience();
        shut();
        passes();
        endless();
        times();
        due();
        dueAmongSeveral();
        lapse();
        bell();
        mustOffer();
        byWays();
        worthInTheBook();
        freshAfterChanges();
        wrongOnes();
        Check.end();
    }

    private static void day(BowingRow x, int... due) {
        for (int what = 0; what < due.length; what++) {
            Check.same("day(" + what + ")", due[what], x.day(what));
        }
    }

    private static void call(BowingRow x, int k, int... due) {
        for (int what = 0; what < due.length; what++) {
            Check.same("call(" + k + ", " + what + ")", due[what], x.call(k, what));
        }
    }

    private static void holders(BowingRow x, int k, int... due) {
        for (int i = 0; i < due.length; i++) {
            Check.same("holder(" + k + ", " + i + ")", due[i], x.holder(k, i));
        }
        Check.same("holder(" + k + ", " + due.length + ")", -1, x.holder(k, due.length));
        Check.same("holder(" + k + ", -1)", -1, x.holder(k, -1));
        Check.same("holder(" + k + ", MAX)", -1, x.holder(k, Integer.MAX_VALUE));
    }

    private static void comeAndGo() {
        BowingRow x = Check.with("person 50 0 0 10 100;person 20 0 0 10 100;person 20 0 0 5 100;person 19 0 0 2 9;", "");
        day(x, 4, 4, 0, 0, 0, 60, 0);
        call(x, 0, 3, 19, 0, 8, 21);
        call(x, 1, 1, 21, 0, 6, 31);
        call(x, 2, 2, 31, 0, 4, 36);
        call(x, 3, 0, 50, 0, 1, 60);
        holders(x, 0, 3);
        holders(x, 3, 0);
        Check.same("ends(0)", 60, x.ends(0));
        Check.same("ends(3)", 21, x.ends(3));
        Check.same("balance(0)", 0, x.balance(0));
        Check.fails("holder(4, 0)", IndexOutOfBoundsException.class, () -> x.holder(4, 0));
    }

    private static void patience() {
        BowingRow x = Check.with("person 0 0 0 10 100;person 1 0 0 5 9;person 1 0 0 5 8;", "");
        day(x, 2, 2, 0, 0, 0, 15, 0);
        call(x, 1, 1, 10, 0, 2, 15);
        Check.same("ends of who went away", -1, x.ends(2));
    }

    private static void shut() {
        String row = "person 0 0 0 10 100;person 1 0 0 5 100;person 30 0 0 5 100;";
        BowingRow x = Check.with(row, "shut 10;");
        day(x, 1, 1, 0, 0, 0, 10, 0);
        Check.law(x, "shut 11;");
        day(x, 2, 2, 0, 0, 0, 15, 0);
        Check.law(x, "shut 30;");
        day(x, 2, 2, 0, 0, 0, 15, 0);
        Check.law(x, "shut 31;");
        day(x, 3, 3, 0, 0, 0, 35, 0);
        Check.law(x, "shut 0;");
        day(x, 0, 0, 0, 0, 0, 0, 0);
        BowingRow late = Check.with("person 998 0 0 60 1;person 999 0 0 1 1;", "");
        day(late, 1, 1, 0, 0, 0, 1058, 0);
    }

    private static void passes() {
        BowingRow x = Check.with(THREE_AT_ONCE + "way 0 4;way 1 4;", "bow 2;times 1;");
        // 0 and 1 offer, 2 goes; then 0 and 1 offer, 0 goes; then 1 is alone
        day(x, 3, 3, 4, 2, 0, 7 + 9 + 7, 0);
        call(x, 0, 2, 0, 2, 7, 7);
        call(x, 1, 0, 7, 2, 3, 16);
        call(x, 2, 1, 16, 0, 2, 23);
        holders(x, 0, 0, 1, 2);
        holders(x, 1, 0, 1, 0);
        holders(x, 2, 1);
        Check.same("book(0, 2)", 1, x.book(0, 2));
        Check.same("book(1, 2)", 1, x.book(1, 2));
        Check.same("book(2, 0)", 0, x.book(2, 0));
        Check.same("book(1, 0)", 0, x.book(1, 0));
        Check.same("book(0, 0)", 0, x.book(0, 0));
        Check.same("balance(0)", 1, x.balance(0));
        Check.same("balance(1)", 1, x.balance(1));
        Check.same("balance(2)", -2, x.balance(2));
        Check.same("owed(0, 2)", 1, x.owed(0, 2));
        Check.same("owed(2, 0)", 0, x.owed(2, 0));
        Check.same("owed(1, 1)", 0, x.owed(1, 1));
    }

    private static void endless() {
        BowingRow x = Check.with(THREE_AT_ONCE + "way 0 4;way 1 4;", "worth 3;lapse 3;");
        day(x, 2, 1, 4, 2, 1, 3, 0);
        call(x, 0, 2, 0, 2, 7, 3);
        call(x, 1, -1, 3, 2, 3, -1);
        holders(x, 1, 0, 1, 0);
        Check.same("ends(0)", -1, x.ends(0));
        // the passes of minute 0 still count at minute 3, that of the endless call
        Check.same("balance(0)", 3, x.balance(0));
        Check.same("balance(2)", -6, x.balance(2));
        Check.law(x, "worth 3;lapse 2;");
        Check.same("lapsed balance(0)", 0, x.balance(0));
        Check.same("lapsed book(0, 2)", 3, x.book(0, 2));
        Check.same("lapsed owed(0, 2)", 3, x.owed(0, 2));
        // the counter is free from minute 2 on, but the endless call is of minute 100
        BowingRow late = Check.with("person 0 0 0 1 9;person 0 0 0 1 9;person 100 0 0 1 9;person 100 0 0 1 9;"
            + "way 0 4;way 2 4;way 3 4;", "lapse 100;");
        call(late, 2, -1, 100, 2, 12, -1);
        Check.same("balance(0) at minute 100 with lapse 100", 1, late.balance(0));
        Check.law(late, "lapse 99;");
        Check.same("balance(0) at minute 100 with lapse 99", 0, late.balance(0));
    }

    private static void times() {
        BowingRow x = Check.with(THREE_AT_ONCE + "way 0 4;way 1 4;way 2 4;", "times 9;bow 1;");
        day(x, 3, 3, 27 + 18, 0, 0, 32 + 25 + 3, 0);
        call(x, 0, 0, 0, 27, 7, 32);
        call(x, 1, 1, 32, 18, 6, 57);
        call(x, 2, 2, 57, 0, 4, 60);
        Check.same("holder(0, 26)", 2, x.holder(0, 26));
        Check.same("holder(0, 27)", 0, x.holder(0, 27));
        Check.same("holder(0, 28)", -1, x.holder(0, 28));
    }

    private static void due() {
        String row = "person 0 30 1 5 100;person 0 60 2 7 100;person 0 20 0 3 100;way 2 1;way 0 3;";
        BowingRow x = Check.with(row, "due 1;");
        // 0 offers to the older 1, who goes; then 0 goes unasked, though it stood first anyhow
        day(x, 3, 3, 1, 1, 0, 15, 1);
        call(x, 1, 0, 7, 0, 5, 12);
        holders(x, 1);
        Check.same("an unasked one is never asked", -1, x.holder(1, 0));
        holders(x, 2, 2);
        Check.law(x, "due 2;");
        day(x, 3, 3, 1, 1, 0, 15, 0);
        Check.law(x, "due 2;worth 2;bell 1;");
        day(x, 3, 3, 1, 1, 0, 15, 1);
    }

    private static void dueAmongSeveral() {
        // minute 0: 0, 1, 2 let 3 pass, for 4, 9 and 9; then 1 goes unasked, then 2, then 0, each alike
        String row = "person 0 4 0 10 100;person 0 9 0 10 100;person 0 9 0 10 100;person 0 0 0 10 100;"
            + "way 0 4;way 1 4;way 2 4;";
        BowingRow x = Check.with(row, "worth age;due 4;");
        day(x, 4, 4, 3, 3, 0, 40, 3);
        int[] goers = {3, 1, 2, 0};
        for (int k = 0; k < 4; k++) {
            Check.same("call(" + k + ", 0)", goers[k], x.call(k, 0));
        }
        Check.same("unasked nobody lets pass", 0, x.book(0, 1));
        Check.law(x, "worth age;due 5;");
        // 0 is not due; it stands alone at last
        day(x, 4, 4, 3, 3, 0, 40, 2);
        holders(x, 3, 0);
    }

    private static void lapse() {
        BowingRow x = Check.with(THREE_AT_ONCE + "knows 0 1;way 0 1;", "due 1;lapse 7;");
        // the pass of minute 0 is seven minutes back at minute 7, and more later
        Check.same("unasked with lapse 7", 1, x.day(6));
        Check.same("balance(0) at the end", 0, x.balance(0));
        Check.law(x, "due 1;lapse 6;");
        Check.same("unasked with lapse 6", 0, x.day(6));
        Check.law(x, "lapse 15;");
        Check.same("balance(0) at minute 15 with lapse 15", 1, x.balance(0));
        Check.law(x, "lapse 14;");
        Check.same("balance(0) at minute 15 with lapse 14", 0, x.balance(0));
        Check.same("balance(1) at minute 15 with lapse 14", 0, x.balance(1));
        Check.same("book(0, 1) has lapsed ones, too", 1, x.book(0, 1));
    }

    private static void bell() {
        BowingRow x = Check.with("person 0 0 0 5 99;person 0 0 0 5 99;person 0 0 0 5 99;way 0 4;way 1 0;way 2 0;",
            "bell 5;");
        // at minute 0 it offers to 1; at minute 5, from the bell on, it goes
        day(x, 3, 3, 1, 1, 0, 15, 0);
        Check.same("call(1, 0)", 0, x.call(1, 0));
        Check.law(x, "bell 6;");
        Check.same("call(1, 0) ahead of the bell", 2, x.call(1, 0));
        Check.law(x, "bell 0;must 1=1;");
        day(x, 3, 3, 0, 0, 0, 15, 0);
        // bows don't bring the bell nearer: it is the minute of the call that counts
        Check.law(x, "bell 1;bow 9;times 2;must 1=1;");
        Check.same("offers ahead of the bell", 6, x.call(0, 2));
    }

    private static void mustOffer() {
        BowingRow x = Check.with(THREE_AT_ONCE, "must older>age;");
        // 0 must offer to 1; 1 goes; 0 goes ahead of 2
        day(x, 3, 3, 1, 1, 0, 15, 0);
        Check.same("call(0, 0)", 1, x.call(0, 0));
        // the last one must offer to the first
        Check.law(x, "must 1=1;times 1;");
        call(x, 0, 0, 0, 3, 7, 5);
        Check.law(x, "must 1=1;");
        day(x, 1, 0, 3, 0, 1, 0, 0);
        BowingRow late = Check.with("person 59 0 0 1 99;person 59 0 0 1 99;person 59 0 0 1 99;", "must hour=1;");
        Check.same("ahead of the hour", 0, late.call(0, 2));
        // at minute 60 the two that are left bow for ever
        day(late, 2, 1, 2, 0, 1, 60, 0);
    }

    private static void byWays() {
        BowingRow x = Check.with(THREE_AT_ONCE + "knows 0 2;", "");
        x.way(0, 1);
        Check.same("1 is not known", 0, x.call(0, 0));
        x.way(0, 3);
        Check.same("1 is older", 1, x.call(0, 0));
        x.way(1, 3);
        Check.same("2 is not older", 1, x.call(0, 0));
        x.way(0, 0);
        Check.same("0 goes", 0, x.call(0, 0));
        x.way(0, 2);
        x.way(1, 0);
        // its balance is 0, then 1, below 2, then 2
        x.until(0, 2);
        Check.same("as long as below until, first", 1, x.call(0, 0));
        Check.same("as long as below until, then", 2, x.call(1, 0));
        x.until(0, 1);
        Check.same("no longer below until", 0, x.call(1, 0));
        x.until(0, 0);
        Check.same("never below until", 0, x.call(0, 0));
        BowingRow same = Check.with("person 0 5 0 1 9;person 0 5 0 1 9;way 0 3;", "");
        Check.same("of the same age is not older", 0, same.call(0, 0));
    }

    private static void worthInTheBook() {
        BowingRow x = Check.with("person 55 10 1 5 99;person 55 90 3 7 99;person 55 50 2 9 99;way 0 4;way 1 4;",
            "worth older-age+hour*30;times 1;");
        // minute 55: 0 and 1 let 2 pass: 40 and, held, 0; minute 64: 0 and 1 offer, 0 goes
        Check.same("book(0, 2)", 40, x.book(0, 2));
        Check.same("book(1, 2)", 0, x.book(1, 2));
        Check.same("passes worth nothing are counted", 2, x.day(3));
        Check.same("balance(2)", -40, x.balance(2));
        Check.same("owed(0, 2)", 40, x.owed(0, 2));
        x.way(1, 0);
        // minute 55: 0 lets 1 pass, for 80; minute 62: 0 lets 2 pass, for 40 and 30
        Check.same("book(0, 1)", 80, x.book(0, 1));
        Check.same("book(0, 2) in the next hour", 70, x.book(0, 2));
        Check.same("balance(0)", 150, x.balance(0));
    }

    private static void freshAfterChanges() {
        BowingRow x = Check.with("person 0 0 0 1 99;person 0 0 0 1 99;", "");
        Check.same("first", 0, x.call(0, 0));
        x.way(0, 4);
        Check.same("after way", 1, x.call(0, 0));
        Check.law(x, "bell 0;");
        Check.same("after law", 0, x.call(0, 0));
        Check.row(x, "person 1 0 0 1 99;person 0 0 0 1 99;");
        Check.same("after row", 1, x.call(0, 0));
        Check.law(x, "");
        x.way(1, 2);
        Check.same("alone", 1, x.call(0, 0));
    }

    private static void wrongOnes() {
        BowingRow x = Check.with(THREE_AT_ONCE, "");
        Check.fails("day(-1)", IllegalArgumentException.class, () -> x.day(-1));
        Check.fails("day(7)", IllegalArgumentException.class, () -> x.day(7));
        Check.fails("call(-1, 0)", IndexOutOfBoundsException.class, () -> x.call(-1, 0));
        Check.fails("call(3, 0)", IndexOutOfBoundsException.class, () -> x.call(3, 0));
        Check.fails("call(3, 5)", IndexOutOfBoundsException.class, () -> x.call(3, 5));
        Check.fails("call(0, 5)", IllegalArgumentException.class, () -> x.call(0, 5));
        Check.fails("call(0, -1)", IllegalArgumentException.class, () -> x.call(0, -1));
        Check.fails("holder(-1, 0)", IndexOutOfBoundsException.class, () -> x.holder(-1, 0));
        Check.fails("holder(3, 0)", IndexOutOfBoundsException.class, () -> x.holder(3, 0));
        for (int person : new int[] {-1, 3, Integer.MIN_VALUE, Integer.MAX_VALUE}) {
            Check.fails("ends", NoSuchElementException.class, () -> x.ends(person));
            Check.fails("balance", NoSuchElementException.class, () -> x.balance(person));
            Check.fails("book", NoSuchElementException.class, () -> x.book(person, 0));
            Check.fails("book", NoSuchElementException.class, () -> x.book(0, person));
            Check.fails("owed", NoSuchElementException.class, () -> x.owed(person, 0));
            Check.fails("owed", NoSuchElementException.class, () -> x.owed(0, person));
        }
    }
}
