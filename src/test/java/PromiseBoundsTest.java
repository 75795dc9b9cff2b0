import java.util.NoSuchElementException;
import java.util.function.Consumer;
import java.util.function.Supplier;

/** Promises 1 to 32, one by one: what a call takes, just inside its bounds, what it refuses, and that it changes nothing then. */
final class PromiseBoundsTest {
    private static final int MIN = Integer.MIN_VALUE;
    private static final int MAX = Integer.MAX_VALUE;
    private static final String TWO = "person 0 30 1 5 100;person 0 60 2 7 100;";

    private interface OnPerson {
        void ask(BowingRow x, int person);
    }

    private interface WithNumber {
        void ask(BowingRow x, int number);
    }

    public static void main(String[] args) {
        p01newObject();
        p02feed();
        p03row();
        p04law();
        p05fault();
        p06told();
        p07person();
        p08way();
        p09until();
        p10must();
        p11worth();
        p12day();
        p13call();
        p14holder();
        p15ends();
        p16balance();
        p17book();
        p18owed();
        p19tell();
        p20forget();
        p21judge();
        p22again();
        p23plan();
        p24best();
        p25gain();
        p26rest();
        p27polite();
        p28struck();
        p29hopeless();
        p30image();
        p31restore();
        p32count();
        fiveHundredAndTwelveCalls();
        Check.end();
    }

    // ---- refused calls

    private static void illegal(String what, Consumer<BowingRow> call) {
        Twins.throwing(what, Twins::busy, IllegalArgumentException.class, call);
    }

    /** Numbers below 0 and above the most are refused, and change nothing. */
    private static void upTo(String what, int most, WithNumber call) {
        for (int number : new int[] {-1, most + 1, most + 2, MIN, MAX}) {
            illegal(what + " with " + number, x -> call.ask(x, number));
        }
        for (int number : new int[] {0, most}) {
            call.ask(Twins.busy(), number);
        }
    }

    /** Of three, of eight, of none: no such PERSON, and nothing changes. */
    private static void noSuchPerson(String what, OnPerson call) {
        for (int person : new int[] {-1, 3, 4, 7, 8, MIN, MAX}) {
            noSuch(what, Twins::busy, call, person);
        }
        for (int person : new int[] {-1, 8, 9}) {
            noSuch(what, Twins::full, call, person);
        }
        for (int person : new int[] {0, 1, -1}) {
            noSuch(what, BowingRow::new, call, person);
        }
        call.ask(Twins.busy(), 0);
        call.ask(Twins.busy(), 2);
    }

    private static void noSuch(String what, Supplier<BowingRow> made, OnPerson call, int person) {
        Twins.throwing(what + " of person " + person, made, NoSuchElementException.class, x -> call.ask(x, person));
    }

    private static void noSuchCall(String what, WithNumber call) {
        for (int k : new int[] {-1, 3, 4, 8, MIN, MAX}) {
            Twins.throwing(what + " of call " + k, Twins::busy, IndexOutOfBoundsException.class, x -> call.ask(x, k));
        }
        Twins.throwing(what + " of no call", BowingRow::new, IndexOutOfBoundsException.class, x -> call.ask(x, 0));
        call.ask(Twins.busy(), 0);
        call.ask(Twins.busy(), 2);
    }

    // ---- the promises

    private static void p01newObject() {
        Doc.says("`BowingRow()`: No PERSONS; a LAW without RULES.");
        BowingRow x = new BowingRow();
        int[] told = {0, 0, -1, -1, -1, 999, 0, -1};
        for (int what = 0; what < 8; what++) {
            Check.same("told(" + what + ") of a new object", told[what], x.told(what));
        }
        for (int what = 0; what < 3; what++) {
            Check.same("count(" + what + ") of a new object", 0, x.count(what));
        }
        Check.same("fault() of a new object", -1, x.fault());
        // what is done to one object is not done to another one
        BowingRow other = Twins.full();
        Check.same("persons of another object", 8, other.told(0));
        Check.same("persons of this one", 0, x.told(0));
        Check.same("tape of this one", 0, x.count(2));
        Check.same("images of this one", 0, x.count(1));
        Check.same("served row of this one", 0, x.count(0));
    }

    private static void p02feed() {
        Doc.says("Twenty bytes come on the TAPE, of each number the highest first: how many there are;",
            "NONE, doing nothing, if there would be more than 500.");
        BowingRow x = new BowingRow();
        int blanks = 0x20202020;
        for (int many = 20; many <= 500; many += 20) {
            Check.same("feed up to " + many, many, x.feed(blanks, blanks, blanks, blanks, blanks));
            Check.same("bytes of the tape", many, x.count(2));
        }
        Check.same("feed beyond 500", -1, x.feed(blanks, blanks, blanks, blanks, blanks));
        Check.same("bytes stay 500", 500, x.count(2));
        Check.same("500 bytes of blanks", 0, x.row(500));
        Check.same("feed after that", 20, x.feed(blanks, blanks, blanks, blanks, blanks));
        Twins.answering("a feed to a full tape", Twins::full, -1, y -> y.feed(MIN, -1, 0, 1, MAX));
        Twins.answering("two feeds to a full tape", Twins::full, -2,
            y -> y.feed(0x3f3f3f3f, 0, 0, 0, 0) + y.feed(0, 0, 0, 0, 0x3f3f3f3f));
        order();
    }

    /** Each byte at its own place, the highest first. */
    private static void order() {
        for (int place = 0; place < 20; place++) {
            int[] numbers = {0x20202020, 0x20202020, 0x20202020, 0x20202020, 0x20202020};
            numbers[place / 4] ^= (0x20 ^ 0xff) << 24 - place % 4 * 8;
            BowingRow x = new BowingRow();
            x.feed(numbers[0], numbers[1], numbers[2], numbers[3], numbers[4]);
            Check.same("a byte of 255 at " + place, -9, x.row(20));
            Check.same("its place", place, x.fault());
        }
    }

    private static void p03row() {
        Doc.says("The first n bytes of the TAPE (empty then) are the ROW"
            + " (the SERVED ROW goes, IMAGES, too; the LAW stays): how many PERSONS; or the FAULT less 10 (all stays).",
            "IllegalArgumentException: n is not 0 to the TAPE's bytes (it stays).");
        for (int n : new int[] {-1, 21, 40, 500, 501, MIN, MAX}) {
            illegal("row(" + n + ")", x -> x.row(n));
        }
        for (int n : new int[] {-1, 501, MAX}) {
            Twins.throwing("row(" + n + ") of 500", Twins::full, IllegalArgumentException.class, x -> x.row(n));
        }
        for (int n : new int[] {-1, 1, 20}) {
            Twins.throwing("row(" + n + ") of none", BowingRow::new, IllegalArgumentException.class, x -> x.row(n));
        }
        BowingRow x = Twins.busy();
        Check.same("row(0)", 0, x.row(0));
        afterRow(x, 0);
        Check.feed(x, "person 0 0 0 1 1;   ");
        Check.same("row of all bytes", 1, x.row(20));
        afterRow(x, 1);
        Check.feed(x, "person 0 0 0 1 1;?? person 0 0 0 1 1;   ");
        Check.same("row of the first bytes", 1, x.row(17));
        afterRow(x, 1);
        Check.feed(x, "person 0 0 0 1 1;   ");
        Check.same("row of one byte too few", -9, x.row(16));
        Check.same("place of its end", 16, x.fault());
        Check.same("the tape is empty after a fault", 0, x.count(2));
        Check.same("the persons stay", 1, x.told(0));
        // nothing of a text with a FAULT is found in a later one
        for (int i = 0; i < 2; i++) {
            Check.row(x, "person 0 0 0 1 1;person 0 0 0 1 1;way 0 4;until 0 9;knows 0 1;?");
            Check.row(x, "person 0 0 0 1 1;");
            Check.same("way without", 0, x.person(0, 5));
            Check.same("until without", 3, x.person(0, 6));
            Check.same("knows nobody", 0, x.person(0, 7));
        }
        Twins.badRow("?", 1, 0);
        Twins.badRow("person 0 0 0 1 1;person 0 0 0 1 1;person 1000 0 0 1 1;", 2, 41);
        Twins.badRow("person 0 0 0 1 1;".repeat(9), 3, 136);
        Twins.badRow("person 0 0 0 1 1;way 0 4;until 0 0", 1, 34);
    }

    private static void afterRow(BowingRow x, int persons) {
        Check.same("persons", persons, x.told(0));
        Check.same("the tape is empty then", 0, x.count(2));
        Check.same("the served row goes", 0, x.count(0));
        Check.same("images go", 0, x.count(1));
        Check.same("nothing to restore", -1, x.restore());
        Check.same("the law stays", 6, x.told(1));
        Check.same("its due stays", 40, x.told(2));
        Check.same("no fault", -1, x.fault());
    }

    private static void p04law() {
        Doc.says("Likewise the LAW (nothing else changes): how many RULES; or the FAULT less 10 (it stays).");
        for (int n : new int[] {-1, 21, 40, 500, 501, MIN, MAX}) {
            illegal("law(" + n + ")", x -> x.law(n));
        }
        for (int n : new int[] {-1, 501, MAX}) {
            Twins.throwing("law(" + n + ") of 500", Twins::full, IllegalArgumentException.class, x -> x.law(n));
        }
        for (int n : new int[] {-1, 1, 20}) {
            Twins.throwing("law(" + n + ") of none", BowingRow::new, IllegalArgumentException.class, x -> x.law(n));
        }
        BowingRow x = Twins.busy();
        Check.same("law(0)", 0, x.law(0));
        afterLaw(x, 0);
        Check.feed(x, "bow 5;              ");
        Check.same("law of all bytes", 1, x.law(20));
        afterLaw(x, 1);
        Check.feed(x, "bow 6;??");
        Check.same("law of the first bytes", 1, x.law(6));
        afterLaw(x, 1);
        Check.same("bow", 6, x.told(6));
        Check.feed(x, "bow 7;");
        Check.same("law of one byte too few", -9, x.law(5));
        Check.same("place of its end", 5, x.fault());
        Check.same("the tape is empty after a fault", 0, x.count(2));
        Check.same("bow stays", 6, x.told(6));
        Twins.badLaw("?", 1, 0);
        Twins.badLaw("due 1;times 1;bell 1;shut 1;bow 1;lapse 1;worth 1;must 1=1;due 0;", 2, 63);
        Twins.badLaw("bow 9;".repeat(11), 3, 60);
        // the LAW as it was stays, too, where the text has a FAULT only in its second formula
        Twins.badLaw("worth 1;must 1=1;worth (((((((1", 3, 29);
    }

    private static void afterLaw(BowingRow x, int rules) {
        Check.same("rules", rules, x.told(1));
        Check.same("the tape is empty then", 0, x.count(2));
        Check.same("the persons stay", 3, x.told(0));
        Check.same("ways stay", 1, x.person(0, 5));
        Check.same("untils stay", 77, x.person(1, 6));
        Check.same("the served row stays", 3, x.count(0));
        Check.same("images stay", 2, x.count(1));
        Check.same("no fault", -1, x.fault());
    }

    private static void p05fault() {
        Doc.says("The place of the FAULT of the latest text; NONE without.");
        BowingRow x = new BowingRow();
        Check.same("no text yet", -1, x.fault());
        Check.row(x, "?");
        Check.same("the least place", 0, x.fault());
        Check.fails("row(1) of no tape", IllegalArgumentException.class, () -> x.row(1));
        Check.same("a refused call is no text", 0, x.fault());
        Check.law(x, " ?");
        Check.same("of the latest text", 1, x.fault());
        Check.row(x, "");
        Check.same("none any more", -1, x.fault());
        Check.law(x, " ".repeat(499) + "?");
        Check.same("the last byte", 499, x.fault());
        Check.law(x, " ".repeat(497) + "due");
        Check.same("the greatest place", 500, x.fault());
        Check.feed(x, "                    ");
        Check.same("feed is no text", 500, x.fault());
        x.law(20);
        Check.same("a good text", -1, x.fault());
    }

    private static void p06told() {
        Doc.says("0 PERSONS, 1 RULES, 2 due, 3 times, 4 bell (NONE each without), 5 shut, 6 bow, 7 lapse (NONE without).",
            "IllegalArgumentException: another what (so below).");
        upTo("told", 7, (x, what) -> x.told(what));
        BowingRow x = Check.with(TWO, "due 7;times 6;bell 5;shut 4;bow 3;lapse 2;bow 3;");
        int[] due = {2, 7, 7, 6, 5, 4, 3, 2};
        for (int what = 0; what < 8; what++) {
            Check.same("told(" + what + ")", due[what], x.told(what));
        }
        Check.law(x, "due 1;times 1;bell 0;shut 0;bow 0;lapse 1;");
        int[] least = {2, 6, 1, 1, 0, 0, 0, 1};
        for (int what = 0; what < 8; what++) {
            Check.same("least told(" + what + ")", least[what], x.told(what));
        }
        Check.law(x, "");
        int[] without = {2, 0, -1, -1, -1, 999, 0, -1};
        for (int what = 0; what < 8; what++) {
            Check.same("told(" + what + ") without", without[what], x.told(what));
        }
    }

    private static void p07person() {
        Doc.says("Of a PERSON: 0 MINUTE, 1 AGE, 2 LOAD, 3 ERRAND, 4 PATIENCE, 5 WAY, 6 until, 7 whom it knows (bits).",
            "NoSuchElementException: no such PERSON (so below).");
        noSuchPerson("person", (x, person) -> x.person(person, 0));
        noSuchPerson("person with another what", (x, person) -> x.person(person, person >= 0 && person < 3 ? 7 : 8));
        upTo("person", 7, (x, what) -> x.person(2, what));
        StringBuilder row = new StringBuilder("person 0 0 0 1 1;");
        row.append("person 999 99 9 60 999;".repeat(7)).append("way 7 4;until 7 99;until 0 0;");
        for (int other = 0; other < 7; other++) {
            row.append("knows 7 ").append(other).append(';');
        }
        BowingRow x = Check.with(row.toString(), "");
        int[] least = {0, 0, 0, 1, 1, 0, 0, 128};
        int[] greatest = {999, 99, 9, 60, 999, 4, 99, 127};
        for (int what = 0; what < 8; what++) {
            Check.same("least person(0, " + what + ")", least[what], x.person(0, what));
            Check.same("greatest person(7, " + what + ")", greatest[what], x.person(7, what));
        }
    }

    private static void p08way() {
        Doc.says("A PERSON's WAY is another one (0 to 4): which it was.");
        noSuchPerson("way", (x, person) -> x.way(person, 4));
        noSuchPerson("way with no such way", (x, person) -> x.way(person, person >= 0 && person < 3 ? 0 : 5));
        upTo("way", 4, (x, way) -> x.way(2, way));
        BowingRow x = Check.with(TWO, "");
        int was = 0;
        for (int way : new int[] {4, 0, 0, 3, 2, 1, 4}) {
            Check.same("way(1, " + way + ")", was, x.way(1, way));
            Check.same("its way then", way, x.person(1, 5));
            Check.same("the other one's", 0, x.person(0, 5));
            was = way;
        }
    }

    private static void p09until() {
        Doc.says("Its until (0 to 99): what it was.");
        noSuchPerson("until", (x, person) -> x.until(person, 9));
        noSuchPerson("until with no such until", (x, person) -> x.until(person, person >= 0 && person < 3 ? 0 : 100));
        upTo("until", 99, (x, n) -> x.until(2, n));
        BowingRow x = Check.with(TWO, "");
        int was = 3;
        for (int n : new int[] {0, 99, 99, 1, 0}) {
            Check.same("until(1, " + n + ")", was, x.until(1, n));
            Check.same("its until then", n, x.person(1, 6));
            Check.same("the other one's", 3, x.person(0, 6));
            was = n;
        }
    }

    private static void p10must() {
        Doc.says("Whether must holds for two PERSONS in an hour (0 to 16).",
            "IllegalArgumentException: they are one, or the hour (so of the next).");
        noSuchPerson("must", (x, person) -> x.must(person, 1 - Math.min(Math.max(person, 0), 1), 0));
        noSuchPerson("must by the other one", (x, person) -> x.must(1 - Math.min(Math.max(person, 0), 1), person, 0));
        upTo("must", 16, (x, hour) -> x.must(0, 1, hour));
        for (int person = 0; person < 3; person++) {
            int one = person;
            illegal("must of one and the same", x -> x.must(one, one, 0));
            illegal("must of one and the same in no hour", x -> x.must(one, one, 17));
        }
        // no such PERSON goes ahead of they are one
        Twins.throwing("must(3, 3, 0)", Twins::busy, NoSuchElementException.class, x -> x.must(3, 3, 0));
        BowingRow x = Check.with(TWO, "must hour>15 and older>age;");
        Check.same("hour 15", 0, x.must(0, 1, 15) ? 1 : 0);
        Check.same("hour 16", 1, x.must(0, 1, 16) ? 1 : 0);
        Check.same("the other way round", 0, x.must(1, 0, 16) ? 1 : 0);
        Check.law(x, "must hour<1;");
        Check.same("hour 0", 1, x.must(0, 1, 0) ? 1 : 0);
        Check.same("hour 1", 0, x.must(0, 1, 1) ? 1 : 0);
    }

    private static void p11worth() {
        Doc.says("What a PASS is worth.", "IllegalArgumentException: they are one, or the hour (so of the next).");
        noSuchPerson("worth", (x, person) -> x.worth(person, 1 - Math.min(Math.max(person, 0), 1), 0));
        noSuchPerson("worth by the other one", (x, person) -> x.worth(1 - Math.min(Math.max(person, 0), 1), person, 0));
        upTo("worth", 16, (x, hour) -> x.worth(0, 1, hour));
        for (int person = 0; person < 3; person++) {
            int one = person;
            illegal("worth of one and the same", x -> x.worth(one, one, 0));
            illegal("worth of one and the same in no hour", x -> x.worth(one, one, -1));
        }
        Twins.throwing("worth(3, 3, 0)", Twins::busy, NoSuchElementException.class, x -> x.worth(3, 3, 0));
        // as a PASS is: held to 0 to 99
        BowingRow x = Check.with(TWO, "worth older-age+hour*5-10;");
        Check.same("worth in hour 0", 20, x.worth(0, 1, 0));
        Check.same("worth in hour 15", 95, x.worth(0, 1, 15));
        Check.same("worth in hour 16", 99, x.worth(0, 1, 16));
        Check.same("worth below 0", 0, x.worth(1, 0, 7));
        Check.same("worth 0", 0, x.worth(1, 0, 8));
        Check.same("worth 5", 5, x.worth(1, 0, 9));
    }

    private static void p12day() {
        Doc.says("The DAY: 0 how many CALLS there are, 1 how many are SERVED, 2 OFFERS, 3 PASSES,"
            + " 4 whether it ends ENDLESS (1, 0), 5 when the last ERRAND ends (0 without), 6 who goes UNASKED, how many CALLS.");
        upTo("day", 6, (x, what) -> x.day(what));
        BowingRow x = new BowingRow();
        for (int what = 0; what < 7; what++) {
            Check.same("day(" + what + ") of nobody", 0, x.day(what));
        }
        // endless in its first call: one call, nobody served, no errand that ends
        x = Check.with(TWO + "way 0 4;way 1 4;", "");
        int[] due = {1, 0, 2, 0, 1, 0, 0};
        for (int what = 0; what < 7; what++) {
            Check.same("day(" + what + ") without an end", due[what], x.day(what));
        }
        // the last errand that ends is that of the last call
        x = Check.with("person 0 0 0 1 9;person 999 0 0 1 9;person 500 0 0 60 9;", "");
        int[] gaps = {2, 2, 0, 0, 0, 560, 0};
        for (int what = 0; what < 7; what++) {
            Check.same("day(" + what + ") with gaps", gaps[what], x.day(what));
        }
    }

    private static void p13call() {
        Doc.says("Of the k-th CALL: 0 who GOES (NONE: ENDLESS), 1 the MINUTE, 2 OFFERS, 3 who stands there (bits),"
            + " 4 when the ERRAND ends (NONE: ENDLESS).", "IndexOutOfBoundsException: no such CALL (so below).");
        noSuchCall("call", (x, k) -> x.call(k, 0));
        noSuchCall("call with another what", (x, k) -> x.call(k, k >= 0 && k < 3 ? 4 : 5));
        upTo("call", 4, (x, what) -> x.call(2, what));
        BowingRow x = Check.with("person 9 0 0 1 9;".repeat(7) + "person 0 0 0 60 9;", "");
        int[] first = {7, 0, 0, 128, 60};
        for (int what = 0; what < 5; what++) {
            Check.same("call(0, " + what + ")", first[what], x.call(0, what));
        }
        Check.fails("those who have gone have no call", IndexOutOfBoundsException.class, () -> x.call(1, 0));
        BowingRow y = Check.with(TWO + "way 0 4;way 1 4;", "");
        int[] endless = {-1, 0, 2, 3, -1};
        for (int what = 0; what < 5; what++) {
            Check.same("endless call(0, " + what + ")", endless[what], y.call(0, what));
        }
        Check.fails("no call behind an endless one", IndexOutOfBoundsException.class, () -> y.call(1, 0));
    }

    private static void p14holder() {
        Doc.says("The i-th to whom the PLACE comes in a CALL (the first one, from 0 on;"
            + " of an ENDLESS one also the last, who had it); NONE: none such, or UNASKED.");
        noSuchCall("holder", (x, k) -> x.holder(k, 0));
        noSuchCall("holder, none such", (x, k) -> x.holder(k, -1));
        BowingRow x = Check.with(TWO + "way 0 4;", "due 1;");
        int[] due = {0, 1, -1};
        for (int i = 0; i < 3; i++) {
            Check.same("holder(0, " + i + ")", due[i], x.holder(0, i));
        }
        for (int i : new int[] {-1, 3, 8, MIN, MAX}) {
            Check.same("holder(0, " + i + ")", -1, x.holder(0, i));
        }
        for (int i : new int[] {-1, 0, 1, MIN, MAX}) {
            Check.same("unasked holder(1, " + i + ")", -1, x.holder(1, i));
        }
        x.way(1, 4);
        int[] endless = {0, 1, 0, -1};
        for (int i = 0; i < 4; i++) {
            Check.same("endless holder(0, " + i + ")", endless[i], x.holder(0, i));
        }
        for (int i : new int[] {-1, 4, MIN, MAX}) {
            Check.same("endless holder(0, " + i + ")", -1, x.holder(0, i));
        }
    }

    private static void p15ends() {
        Doc.says("When a PERSON's ERRAND ends; NONE: it is not SERVED.");
        noSuchPerson("ends", (x, person) -> x.ends(person));
        BowingRow x = Check.with("person 0 0 0 60 1;person 60 0 0 1 1;person 58 0 0 1 1;person 999 0 0 1 1;", "");
        int[] due = {60, 61, -1, -1};
        for (int person = 0; person < 4; person++) {
            Check.same("ends(" + person + ")", due[person], x.ends(person));
        }
        Check.row(x, TWO + "way 0 4;way 1 4;");
        Check.same("ends of an endless one", -1, x.ends(0));
    }

    private static void p16balance() {
        Doc.says("BALANCE of a PERSON as the DAY ends (at the MINUTE at which the counter is free, or of the ENDLESS CALL).");
        noSuchPerson("balance", (x, person) -> x.balance(person));
        // 0 lets 1 pass at minute 0; the last errand ends at 12
        BowingRow x = Check.with(TWO + "way 0 4;", "lapse 12;");
        Check.same("at the minute at which the counter is free", 1, x.balance(0));
        Check.same("of the other one", -1, x.balance(1));
        Check.law(x, "lapse 11;");
        Check.same("further back", 0, x.balance(0));
        Check.same("of the other one", 0, x.balance(1));
        // the same, but then two come at minute 100 and bow for ever
        Check.row(x, TWO + "person 100 0 0 1 9;person 100 0 0 1 9;way 0 4;way 2 4;way 3 4;");
        Check.law(x, "lapse 100;");
        Check.same("of the endless call", 1, x.balance(0));
        Check.law(x, "lapse 99;");
        Check.same("further back than the endless call", 0, x.balance(0));
        // who is waited for, but comes at shut, brings no other minute
        Check.row(x, TWO + "person 100 0 0 1 9;way 0 4;");
        Check.law(x, "lapse 12;shut 100;");
        Check.same("free from minute 12 on", 1, x.balance(0));
        Check.law(x, "shut 0;");
        Check.same("without calls", 0, x.balance(0));
        greatestBalances();
    }

    private static void greatestBalances() {
        StringBuilder row = new StringBuilder();
        for (int person = 0; person < 8; person++) {
            row.append("person 0 ").append(9 - person).append(" 0 60 999;");
        }
        BowingRow x = Check.with(row.toString(), "must not older>age;worth 9999;");
        Check.same("the greatest balance", 7 * 99, x.balance(0));
        Check.same("the least balance", -7 * 99, x.balance(7));
    }

    private static void p17book() {
        Doc.says("BOOK: what one gave to another one.");
        noSuchPerson("book", (x, person) -> x.book(person, 0));
        noSuchPerson("book by the other one", (x, person) -> x.book(0, person));
        BowingRow x = Check.with(TWO + "way 0 4;", "worth 99;");
        Check.same("book(0, 1)", 99, x.book(0, 1));
        Check.same("book(1, 0)", 0, x.book(1, 0));
        Check.same("book(0, 0)", 0, x.book(0, 0));
        Check.law(x, "worth 0;");
        Check.same("a pass worth nothing", 0, x.book(0, 1));
    }

    private static void p18owed() {
        Doc.says("DEBTS: what a PERSON is owed by another one, set off.");
        noSuchPerson("owed", (x, person) -> x.owed(person, 0));
        noSuchPerson("owed by the other one", (x, person) -> x.owed(0, person));
        BowingRow x = Check.with(TWO + "way 0 4;", "worth 99;");
        Check.same("owed(0, 1)", 99, x.owed(0, 1));
        Check.same("owed(1, 0)", 0, x.owed(1, 0));
        Check.same("owed(0, 0)", 0, x.owed(0, 0));
    }

    private static void p19tell() {
        Doc.says("A PERSON comes to the SERVED ROW: how many there are; -1: there are 8.");
        noSuchPerson("tell", (x, person) -> x.tell(person));
        BowingRow x = Check.with(TWO, "");
        for (int many = 1; many <= 8; many++) {
            Check.same("tell " + many, many, x.tell(many % 2));
            Check.same("told", many, x.count(0));
        }
        Check.same("tell 9", -1, x.tell(0));
        for (int person = 0; person < 8; person++) {
            int told = person;
            Twins.answering("tell(" + person + ") with eight", Twins::full, -1, y -> y.tell(told));
        }
    }

    private static void p20forget() {
        Doc.says("It goes: how many.");
        BowingRow x = Twins.full();
        Check.same("forget of eight", 8, x.forget());
        Check.same("none told", 0, x.count(0));
        Check.same("nothing judged", -1, x.judge());
        Check.same("forget of none", 0, x.forget());
        Check.same("tell again", 1, x.tell(7));
        Check.same("forget of one", 1, x.forget());
        Check.same("images stay", 3, x.count(1));
        Twins.answering("forget of none", BowingRow::new, 0, y -> y.forget());
    }

    private static void p21judge() {
        Doc.says("`int judge()`: JUDGED.");
        Twins.answering("judge of nobody", BowingRow::new, -1, y -> y.judge());
        Twins.answering("judge", Twins::busy, -1, y -> y.judge());
        Twins.answering("judge of eight", Twins::full, 4, y -> y.judge());
    }

    private static void p22again() {
        Doc.says("OVER AGAIN: when a PERSON's ERRAND ends; NONE.", "IllegalArgumentException: k is below 0, no such WAY.");
        noSuchPerson("again", (x, person) -> x.again(0, person, 0));
        noSuchPerson("again with no such way", (x, person) -> x.again(0, person, person >= 0 && person < 3 ? 4 : 5));
        noSuchPerson("again with no such call", (x, person) -> x.again(person >= 0 && person < 3 ? 0 : -1, person, 0));
        upTo("again", 4, (x, way) -> x.again(0, 1, way));
        illegal("again from -1 on", x -> x.again(-1, 0, 0));
        illegal("again from MIN on", x -> x.again(MIN, 0, 0));
        illegal("again from -1 on by no way", x -> x.again(-1, 0, 9));
        BowingRow x = Check.with(TWO, "");
        Check.same("again from 0 on", 12, x.again(0, 0, 4));
        Check.same("again from the last call on", 5, x.again(1, 0, 4));
        Check.same("again from beyond on", 5, x.again(2, 0, 4));
        Check.same("again from MAX on", 5, x.again(MAX, 0, 4));
        x.way(1, 4);
        Check.same("again without an end", -1, x.again(0, 0, 4));
        Twins.answering("again", Twins::busy, 13, y -> y.again(MAX, 0, 4));
    }

    private static void p23plan() {
        Doc.says("When its ERRAND ends by a PLAN (0 to 1,023); NONE.");
        noSuchPerson("plan", (x, person) -> x.plan(person, 0));
        noSuchPerson("plan with no such plan", (x, person) -> x.plan(person, person >= 0 && person < 3 ? 0 : 1024));
        upTo("plan", 1023, (x, bits) -> x.plan(1, bits));
        BowingRow x = Check.with(TWO, "");
        Check.same("plan 0", 5, x.plan(0, 0));
        Check.same("plan 1023", 12, x.plan(0, 1023));
        x.way(1, 4);
        Check.same("plan without an end", -1, x.plan(0, 1023));
        Twins.answering("plan", Twins::busy, 13, y -> y.plan(0, 1));
    }

    private static void p24best() {
        Doc.says("BEST PLAN: 0 the bits, 1 when it ends (NONE: never SERVED).");
        noSuchPerson("best", (x, person) -> x.best(person, 0));
        noSuchPerson("best with another what", (x, person) -> x.best(person, person >= 0 && person < 3 ? 1 : 2));
        upTo("best", 1, (x, what) -> x.best(0, what));
        BowingRow x = Check.with(TWO, "");
        Check.same("best bits", 0, x.best(1, 0));
        Check.same("best end", 12, x.best(1, 1));
        Check.law(x, "shut 0;");
        Check.same("bits of who is never served", 0, x.best(1, 0));
        Check.same("end of who is never served", -1, x.best(1, 1));
    }

    private static void p25gain() {
        Doc.says("GAIN (may be less than 0).");
        noSuchPerson("gain", (x, person) -> x.gain(person, 0));
        noSuchPerson("gain with no such way", (x, person) -> x.gain(person, person >= 0 && person < 3 ? 4 : 5));
        upTo("gain", 4, (x, way) -> x.gain(2, way));
        BowingRow x = Check.with(TWO, "");
        Check.same("gain less than 0", -7, x.gain(0, 4));
        Check.same("no gain", 0, x.gain(0, 0));
        x.way(0, 4);
        Check.same("gain above 0", 7, x.gain(0, 0));
    }

    private static void p26rest() {
        Doc.says("REST: 0 how many, 1 the first (NONE: there is none).",
            "IllegalStateException: there are more than 5 PERSONS (so of the next).");
        upTo("rest", 1, (x, what) -> x.rest(what));
        for (int many = 6; many <= 8; many++) {
            String row = "person 0 1 1 1 99;".repeat(many);
            Supplier<BowingRow> made = () -> Check.with(row, "bow 1;");
            Twins.throwing("rest(0) of " + many, made, IllegalStateException.class, x -> x.rest(0));
            Twins.throwing("rest(1) of " + many, made, IllegalStateException.class, x -> x.rest(1));
            Twins.throwing("rest(2) of " + many, made, IllegalArgumentException.class, x -> x.rest(2));
            Twins.throwing("rest(-1) of " + many, made, IllegalArgumentException.class, x -> x.rest(-1));
        }
        BowingRow x = new BowingRow();
        int rows = 1;
        for (int many = 0; many <= 5; many++) {
            Check.law(x, "bell 0;");
            Check.row(x, "person 0 1 1 1 99;".repeat(many));
            Check.same("rest(0) of " + many, rows, x.rest(0));
            Check.same("rest(1) of " + many, 0, x.rest(1));
            rows *= 5;
        }
        Twins.throwing("rest(2) of five", () -> Check.with("person 0 1 1 1 99;".repeat(5), ""),
            IllegalArgumentException.class, y -> y.rest(2));
    }

    private static void p27polite() {
        Doc.says("POLITE ONES: 0 the row, 1 all together.",
            "IllegalStateException: there are more than 5 PERSONS (so of the next).");
        upTo("polite", 1, (x, what) -> x.polite(what));
        for (int many = 6; many <= 8; many++) {
            String row = "person 0 1 1 1 99;".repeat(many);
            Supplier<BowingRow> made = () -> Check.with(row, "bow 1;");
            Twins.throwing("polite(0) of " + many, made, IllegalStateException.class, x -> x.polite(0));
            Twins.throwing("polite(1) of " + many, made, IllegalStateException.class, x -> x.polite(1));
            Twins.throwing("polite(2) of " + many, made, IllegalArgumentException.class, x -> x.polite(2));
            Twins.throwing("polite(-1) of " + many, made, IllegalArgumentException.class, x -> x.polite(-1));
        }
        BowingRow x = new BowingRow();
        int together = 0;
        for (int many = 0; many <= 5; many++) {
            together += many;
            Check.row(x, "person 0 1 1 1 99;".repeat(many));
            Check.same("polite(0) of " + many, 0, x.polite(0));
            Check.same("polite(1) of " + many, together, x.polite(1));
        }
        // the greatest row: who goes ahead of the others takes longest, and only by 4 lets them pass
        Check.row(x, "person 0 1 1 60 99;person 0 1 1 1 99;until 0 0;until 1 0;");
        Check.same("way 4 of the first", 4 * 5, x.polite(0));
    }

    private static void p28struck() {
        Doc.says("STRUCK: 0 the bits, 1 how many; NONE.");
        upTo("struck", 1, (x, what) -> x.struck(what));
        BowingRow x = Check.with(TWO, "");
        Check.same("struck(0) of no rules", 0, x.struck(0));
        Check.same("struck(1) of no rules", 0, x.struck(1));
        Check.law(x, "shut 0;".repeat(10));
        Check.same("struck(0) of ten", 1023, x.struck(0));
        Check.same("struck(1) of ten", 10, x.struck(1));
        x.way(0, 4);
        x.way(1, 4);
        Check.same("struck(0), none", -1, x.struck(0));
        Check.same("struck(1), none", -1, x.struck(1));
        Check.same("the rules stay", 10, x.told(1));
        Check.same("and shut", 0, x.told(5));
    }

    private static void p29hopeless() {
        Doc.says("`int hopeless()`: HOPELESS.");
        Twins.answering("hopeless of nobody", BowingRow::new, 0, y -> y.hopeless());
        Twins.answering("hopeless", Twins::busy, 0, y -> y.hopeless());
        Twins.answering("hopeless of eight", Twins::full, 0b1111, y -> y.hopeless());
    }

    private static void p30image() {
        Doc.says("An IMAGE of WAYS, untils, the SERVED ROW: how many there are; -1: there are 3.");
        BowingRow x = new BowingRow();
        for (int many = 1; many <= 3; many++) {
            Check.same("image " + many, many, x.image());
            Check.same("images", many, x.count(1));
        }
        Check.same("image 4", -1, x.image());
        Check.same("images stay three", 3, x.count(1));
        Check.same("restore makes room", 2, x.restore());
        Check.same("image 3 again", 3, x.image());
        Twins.answering("image with three", Twins::full, -1, y -> y.image());
        // a fourth takes no other one's place
        BowingRow y = Twins.full();
        y.way(7, 4);
        y.until(7, 99);
        y.forget();
        Check.same("image 4 of others", -1, y.image());
        Check.same("the third is restored", 2, y.restore());
        Check.same("way of the third", 0, y.person(7, 5));
        Check.same("until of the third", 3, y.person(7, 6));
    }

    private static void p31restore() {
        Doc.says("All is as in the latest IMAGE, which is gone: how many are left; -1: there is none.");
        Twins.answering("restore of none", BowingRow::new, -1, y -> y.restore());
        Twins.answering("restore of none, with persons", () -> Check.with(TWO + "way 0 4;until 1 9;", "bow 1;"), -1,
            y -> y.restore());
        BowingRow x = Twins.full();
        for (int left = 2; left >= 0; left--) {
            Check.same("restore to " + left, left, x.restore());
            Check.same("left", left, x.count(1));
            Check.same("a way of it", 4, x.person(1 + left, 5));
            Check.same("a way that came later", 0, x.person(2 + left, 5));
            Check.same("its served row", 0, x.count(0));
        }
        Check.same("restore of none any more", -1, x.restore());
        Check.same("its way stays", 4, x.person(1, 5));
        fullServedRow();
        allPersons();
    }

    private static void allPersons() {
        BowingRow x = Check.with("person 0 0 0 1 99;".repeat(8), "");
        for (int person = 0; person < 8; person++) {
            x.way(person, person % 5);
            x.until(person, 90 + person);
            x.tell((person + 1) % 8);
        }
        Check.same("0 goes first by way 0", 0, x.call(0, 0));
        Check.same("so 1 is told wrongly", 0, x.judge());
        int end = x.day(5);
        x.image();
        x.forget();
        for (int person = 0; person < 8; person++) {
            x.way(person, 4);
            x.until(person, 0);
            x.tell(0);
        }
        Check.same("endless without the image", -1, x.call(0, 0));
        x.restore();
        for (int person = 0; person < 8; person++) {
            Check.same("restored way of " + person, person % 5, x.person(person, 5));
            Check.same("restored until of " + person, 90 + person, x.person(person, 6));
        }
        Check.same("the first call of the image", 0, x.call(0, 0));
        Check.same("the day of the image", end, x.day(5));
        x.forget();
        x.tell(0);
        x.tell(x.call(1, 0));
        x.image();
        x.forget();
        x.tell(7);
        x.tell(7);
        Check.same("told wrongly", 0, x.judge());
        x.restore();
        Check.same("told rightly in the image", -1, x.judge());
    }

    private static void fullServedRow() {
        BowingRow x = Check.with(TWO, "");
        x.image();
        for (int i = 0; i < 8; i++) {
            x.tell(i % 2);
        }
        x.image();
        x.forget();
        Check.same("restore of eight", 1, x.restore());
        Check.same("eight are back", 8, x.count(0));
        Check.same("the first beyond", 2, x.judge());
        Check.same("there are 8 then", -1, x.tell(0));
        Check.same("restore of none told", 0, x.restore());
        Check.same("none is back", 0, x.count(0));
    }

    private static void p32count() {
        Doc.says("0 the SERVED ROW, 1 IMAGES, 2 bytes of the TAPE; NONE for others.");
        for (int what : new int[] {-1, 3, 4, MIN, MAX}) {
            Twins.answering("count(" + what + ")", Twins::full, -1, x -> x.count(what));
            Twins.answering("count(" + what + ") of a new object", BowingRow::new, -1, x -> x.count(what));
        }
        int[] full = {8, 3, 500};
        int[] empty = {0, 0, 0};
        for (int i = 0; i < 3; i++) {
            int what = i;
            Twins.answering("count(" + what + ")", Twins::full, full[what], x -> x.count(what));
            Twins.answering("count(" + what + ") of a new object", BowingRow::new, empty[what], x -> x.count(what));
        }
    }

    /** The last call that an object is used for answers as the first one does. */
    private static void fiveHundredAndTwelveCalls() {
        Doc.says("An object is used for at most 512 calls after it has been made;");
        String row = "person 0 30 1 5 99;person 0 60 2 7 99;person 0 20 0 3 99;person 0 9 9 9 99;person 0 9 9 9 99;";
        BowingRow x = new BowingRow();
        Check.same("row", 5, Check.row(x, row));
        int rest = x.rest(0);
        int polite = x.polite(1);
        int hopeless = x.hopeless();
        int calls = (row.length() + 19) / 20 + 4;
        for (; calls + 7 <= 508; calls += 7) {
            Check.same("image", 1, x.image());
            x.until(0, calls % 100);
            x.way(calls % 5, 4);
            Check.same("rest of a changed until", 1, x.rest(0) > 0 ? 1 : 0);
            x.feed(0x626f7720, 0x393b2020, 0x20202020, 0x20202020, 0x20202020);
            Check.same("bow 9", 1, x.law(20));
            Check.same("restore", 0, x.restore());
        }
        for (; calls < 508; calls++) {
            x.judge();
        }
        Check.same("call 509", 0, x.law(0));
        Check.same("call 510", rest, x.rest(0));
        Check.same("call 511", polite, x.polite(1));
        Check.same("call 512", hopeless, x.hopeless());
    }
}
