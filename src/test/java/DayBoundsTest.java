/** Terms, the DAY: every bound of its CALLS, OFFERS, PASSES and BALANCES, just inside and just outside. */
final class DayBoundsTest {
    public static void main(String[] args) {
        minuteZero();
        notYetShut();
        shutWithout();
        haveCome();
        patience();
        greatestPatience();
        standByMinuteThenNumber();
        nobodyThere();
        eightCalls();
        balances();
        lapse();
        dueOrMore();
        greatestBalance();
        onlyThoseThere();
        theFirstHasThePlace();
        lastToFirst();
        alone();
        timesInThisCall();
        fromTheBellOn();
        mustAheadOfWay();
        ways();
        knowing();
        belowUntil();
        older();
        endless();
        dayEndsThere();
        bows();
        passes();
        onlyThoseAhead();
        worthOfAPass();
        heldTo();
        unaskedNone();
        Check.end();
    }

    private static void day(String what, BowingRow x, int... due) {
        for (int i = 0; i < due.length; i++) {
            Check.same(what + ": day(" + i + ")", due[i], x.day(i));
        }
    }

    private static void goers(String what, BowingRow x, int... due) {
        Check.same(what + ": calls", due.length, x.day(0));
        for (int k = 0; k < Math.min(due.length, x.day(0)); k++) {
            Check.same(what + ": call(" + k + ", 0)", due[k], x.call(k, 0));
        }
    }

    private static void holders(String what, BowingRow x, int k, int... due) {
        for (int i = 0; i < due.length; i++) {
            Check.same(what + ": holder(" + k + ", " + i + ")", due[i], x.holder(k, i));
        }
        Check.same(what + ": holder(" + k + ", " + due.length + ")", -1, x.holder(k, due.length));
    }

    private static String person(int minute, int errand, int patience) {
        return "person " + minute + " 0 0 " + errand + " " + patience + ";";
    }

    private static void minuteZero() {
        Doc.says("A DAY goes from MINUTE 0 on.");
        BowingRow x = Check.with(person(0, 1, 1), "shut 1;");
        day("from minute 0 on", x, 1, 1, 0, 0, 0, 1, 0);
        Check.same("the minute of the first call", 0, x.call(0, 1));
        Check.same("its end", 1, x.ends(0));
    }

    private static void notYetShut() {
        Doc.says("A CALL: the counter is free; if it is not yet shut (MINUTE below M),");
        BowingRow x = Check.with(person(0, 10, 100) + person(1, 60, 100), "shut 11;");
        goers("free one minute ahead of shut", x, 0, 1);
        Check.same("an errand may end after shut", 70, x.ends(1));
        Check.law(x, "shut 10;");
        goers("free at shut", x, 0);
        Check.same("who is not served", -1, x.ends(1));
        Check.law(x, "shut 9;");
        goers("free after shut", x, 0);
        Check.law(x, "shut 1;");
        goers("shut 1", x, 0);
        Check.law(x, "shut 0;");
        goers("shut 0", x);
        day("shut 0", x, 0, 0, 0, 0, 0, 0, 0);
    }

    private static void shutWithout() {
        Doc.says("shut 999,");
        BowingRow x = Check.with(person(938, 60, 999) + person(938, 60, 999), "");
        goers("free at minute 998", x, 0, 1);
        Check.same("the last minute of a call", 998, x.call(1, 1));
        Check.same("the latest end without bows", 1058, x.ends(1));
        Check.row(x, person(939, 60, 999) + person(939, 60, 999));
        goers("free at minute 999", x, 0);
        Check.row(x, person(998, 1, 1));
        goers("who comes at 998", x, 0);
        Check.row(x, person(999, 1, 1));
        goers("who comes at 999", x);
    }

    private static void haveCome() {
        Doc.says("those who have come (at M, too),");
        BowingRow x = Check.with(person(0, 10, 100) + person(9, 1, 100) + person(10, 1, 100) + person(11, 1, 100), "");
        Check.same("who is there at minute 10", 0b0110, x.call(1, 3));
        Check.same("who is there at minute 0", 0b0001, x.call(0, 3));
        Check.same("who is there at minute 11", 0b1100, x.call(2, 3));
        goers("one by one", x, 0, 1, 2, 3);
    }

    private static void patience() {
        Doc.says("are not served and have not gone away (who waits longer than PATIENCE, from M on, goes)");
        BowingRow x = Check.with(person(0, 10, 1) + person(3, 1, 7), "");
        goers("who waits as long as its patience", x, 0, 1);
        Check.row(x, person(0, 10, 1) + person(3, 1, 6));
        goers("who waits longer", x, 0);
        Check.same("who has gone is not served", -1, x.ends(1));
        Check.row(x, person(0, 1, 1) + person(0, 1, 1));
        goers("one minute by patience 1", x, 0, 1);
        Check.same("who is served stands there no more", 0b10, x.call(1, 3));
        Check.row(x, person(0, 2, 1) + person(0, 1, 1));
        goers("two minutes by patience 1", x, 0);
        // who has gone does not come back, when the counter stands free
        Check.row(x, person(0, 2, 1) + person(0, 1, 1) + person(50, 1, 1));
        goers("who has gone stays away", x, 0, 2);
        Check.same("who is there then", 0b100, x.call(1, 3));
    }

    private static void greatestPatience() {
        Doc.says("PATIENCE 1 to 999),");
        // each lets all behind it pass: 28 bows of nine minutes and seven errands of 60 ahead of the first
        StringBuilder row = new StringBuilder();
        for (int person = 0; person < 8; person++) {
            row.append("person 0 ").append(9 - person).append(" 0 60 999;");
        }
        BowingRow x = Check.with(row.toString(), "must not older>age;bow 9;");
        Check.same("the longest wait", 672, x.call(7, 1));
        Check.row(x, row.toString().replaceFirst("999", "672"));
        Check.same("as long as its patience", 672 + 60, x.ends(0));
        Check.row(x, row.toString().replaceFirst("999", "671"));
        Check.same("longer", -1, x.ends(0));
    }

    private static void standByMinuteThenNumber() {
        Doc.says("stand in the row by M, then by number;");
        BowingRow x = Check.with(person(5, 1, 99) + person(3, 1, 99) + person(5, 1, 99) + person(3, 1, 99)
            + person(0, 10, 99) + person(4, 1, 99) + "way 0 4;way 1 4;way 2 4;way 3 4;way 5 4;", "times 1;");
        holders("the row at minute 10", x, 1, 1, 3, 5, 0, 2, 1);
        Check.same("the bits of the row", 0b101111, x.call(1, 3));
    }

    private static void nobodyThere() {
        Doc.says("with nobody there it is the MINUTE at which the next one comes (if one does before shut).");
        BowingRow x = Check.with(person(70, 1, 9) + person(50, 1, 9) + person(50, 1, 9) + person(0, 1, 9), "shut 51;");
        goers("the next one one minute ahead of shut", x, 3, 1);
        Check.same("the minute of the next one", 50, x.call(1, 1));
        Check.same("both that come then", 0b0110, x.call(1, 3));
        Check.law(x, "shut 50;");
        goers("the next one at shut", x, 3);
        Check.law(x, "shut 70;");
        goers("the last one at shut", x, 3, 1, 2);
        Check.law(x, "shut 71;");
        goers("the last one one minute ahead of shut", x, 3, 1, 2, 0);
        Check.same("the gap ahead of it", 70, x.call(3, 1));
        // the counter is free at the very minute at which the next one comes
        Check.row(x, person(0, 50, 9) + person(50, 1, 9));
        Check.same("no gap", 50, x.call(1, 1));
    }

    private static void eightCalls() {
        Doc.says("(PERSONS, numbered from 0 on, 8 at most: ");
        BowingRow x = Check.with(person(0, 1, 99).repeat(8), "");
        day("as many calls as persons", x, 8, 8, 0, 0, 0, 8, 0);
        Check.same("all stand there", 255, x.call(0, 3));
        Check.same("the last one", 7, x.call(7, 0));
        // the older lets the younger pass: all the last one, then all the last but one, till the first is alone
        Check.row(x, "person 0 9 0 1 99;person 0 8 0 1 99;person 0 7 0 1 99;person 0 6 0 1 99;person 0 5 0 1 99;"
            + "person 0 4 0 1 99;person 0 3 0 1 99;person 0 2 0 1 99;");
        Check.law(x, "must not older>age;");
        day("the most passes there can be", x, 8, 8, 28, 28, 0, 8, 0);
        Check.same("the first gave seven", 7, x.balance(0));
        Check.same("the last got seven", -7, x.balance(7));
    }

    private static void balances() {
        Doc.says("BALANCE of a PERSON: what PASSES it gave are worth less what those it got are;");
        BowingRow x = Check.with(person(0, 1, 9).repeat(3) + "way 0 4;way 1 4;", "times 1;worth 7;");
        // 0 and 1 let 2 pass; then nobody lets anybody pass
        Check.same("who gave", 7, x.balance(0));
        Check.same("who gave, too", 7, x.balance(1));
        Check.same("who got two", -14, x.balance(2));
        x.way(1, 0);
        // 0 lets 1 pass, then 2
        Check.same("who gave two", 14, x.balance(0));
        Check.same("who got one", -7, x.balance(1));
    }

    private static void lapse() {
        Doc.says("with lapse N only those of N MINUTES back at most count.");
        BowingRow x = Check.with(person(0, 1, 99) + person(0, 7, 99) + person(1, 1, 99) + "way 0 4;", "due 1;lapse 7;");
        // the pass of minute 0 is seven minutes back at minute 7
        goers("as far back as lapse", x, 1, 0, 2);
        Check.law(x, "due 1;lapse 6;");
        goers("further back than lapse", x, 1, 2, 0);
        Check.law(x, "due 1;lapse 999;");
        goers("the greatest lapse", x, 1, 0, 2);
        Check.row(x, person(0, 1, 99) + person(0, 1, 99) + person(0, 1, 99) + "way 0 4;");
        Check.law(x, "due 1;lapse 1;");
        goers("the least lapse, one minute back", x, 1, 0, 2);
        Check.row(x, person(0, 1, 99) + person(0, 2, 99) + person(0, 1, 99) + "way 0 4;");
        goers("the least lapse, two minutes back", x, 1, 2, 0);
        // way 2 sees what counts at the minute of the call, too
        Check.row(x, person(0, 1, 99) + person(0, 5, 99) + person(0, 1, 99) + "way 0 2;until 0 1;");
        Check.law(x, "lapse 5;");
        goers("way 2 as far back as lapse", x, 1, 0, 2);
        Check.law(x, "lapse 4;");
        goers("way 2 further back than lapse", x, 1, 2, 0);
    }

    private static void dueOrMore() {
        Doc.says("With due N: if some there have N or more,");
        BowingRow x = Check.with(person(0, 1, 99).repeat(3) + "way 0 4;", "worth 5;due 4;");
        day("more than due", x, 3, 3, 1, 1, 0, 3, 1);
        Check.law(x, "worth 5;due 5;");
        day("as much as due", x, 3, 3, 1, 1, 0, 3, 1);
        Check.law(x, "worth 5;due 6;");
        // it lets a second one pass, and then has 10
        day("less than due", x, 3, 3, 2, 2, 0, 3, 1);
        Check.law(x, "worth 99;due 99;");
        Check.same("the greatest due", 1, x.day(6));
        Check.law(x, "worth 98;due 99;");
        Check.same("one below the greatest due", 1, x.call(1, 2));
        Check.law(x, "worth 1;due 1;");
        Check.same("the least due", 1, x.day(6));
        Check.law(x, "worth 0;due 1;");
        Check.same("0 is below the least due", 0, x.day(6));
        Check.law(x, "worth 99;");
        Check.same("nobody is due without", 0, x.day(6));
        // the last one is due when it is alone, too
        Check.row(x, person(0, 1, 99).repeat(2) + "way 0 4;");
        Check.law(x, "due 1;");
        Check.same("due and alone", 1, x.day(6));
        holders("due and alone", x, 1);
    }

    private static void greatestBalance() {
        Doc.says("the one of the greatest BALANCE (of these the first in the row) goes UNASKED.");
        String row = "person 2 %s 0 1 99;person 1 %s 0 1 99;person 3 0 0 1 99;person 0 0 0 5 99;way 0 4;way 1 4;";
        // at minute 5 the row is 1, 0, 2; both let 2 pass, for their ages
        BowingRow x = Check.with(String.format(row, "8", "8"), "worth age;due 1;");
        goers("of two alike the first in the row", x, 3, 2, 1, 0);
        Check.row(x, String.format(row, "9", "8"));
        goers("the greater balance", x, 3, 2, 0, 1);
        Check.row(x, String.format(row, "8", "9"));
        goers("the greater balance in front", x, 3, 2, 1, 0);
        day("both go unasked", x, 4, 4, 2, 2, 0, 8, 2);
        Check.law(x, "worth age;due 9;");
        day("one goes unasked", x, 4, 4, 2, 2, 0, 8, 1);
    }

    private static void onlyThoseThere() {
        Doc.says("if some there have N or more,");
        // 0 lets 1 pass and goes away, as 1 takes long; 2 and 3 come
        BowingRow x = Check.with(person(0, 1, 9) + person(0, 10, 9) + person(9, 1, 9) + person(10, 1, 9) + "way 0 4;",
            "due 1;");
        goers("who is due has gone away", x, 1, 2, 3);
        Check.same("its balance stays", 1, x.balance(0));
        day("nobody goes unasked", x, 3, 3, 1, 1, 0, 12, 0);
        Check.row(x, person(0, 1, 10) + person(0, 10, 9) + person(9, 1, 9) + person(10, 1, 9) + "way 0 4;");
        goers("who is due is there", x, 1, 0, 2, 3);
    }

    private static void theFirstHasThePlace() {
        Doc.says("Else the first has the PLACE. Who has it OFFERS it to the next behind");
        BowingRow x = Check.with(person(0, 1, 99).repeat(3), "");
        holders("the first goes", x, 0, 0);
        x.way(0, 4);
        holders("the first offers to the next", x, 0, 0, 1);
        x.way(1, 4);
        holders("and so on", x, 0, 0, 1, 2);
    }

    private static void lastToFirst() {
        Doc.says("(the last one: to the first), or GOES.");
        String row = "person 0 30 0 1 99;person 0 60 0 1 99;person 0 %d 0 1 99;way 0 4;way 1 4;way 2 3;";
        BowingRow x = Check.with(String.format(row, 29), "times 1;");
        holders("the last one offers to the older first", x, 0, 0, 1, 2, 0);
        Check.row(x, String.format(row, 30));
        holders("the last one beside a first of its age", x, 0, 0, 1, 2);
        Check.row(x, String.format(row, 29).replace("way 2 3", "knows 2 0;way 2 1"));
        holders("the last one knows the first", x, 0, 0, 1, 2, 0);
        Check.row(x, String.format(row, 29).replace("way 2 3", "knows 2 1;way 2 1"));
        holders("the last one knows another one", x, 0, 0, 1, 2);
        // must is asked of the last one and the first as well
        Check.row(x, String.format(row, 29).replace("way 2 3", "way 2 0"));
        Check.law(x, "times 1;must age=29 and older=30;");
        holders("the last one must offer to the first", x, 0, 0, 1, 2, 0);
        Check.law(x, "times 1;must age=29 and older=60;");
        holders("nor must it to another one", x, 0, 0, 1, 2);
        // of two each one is the next of the other
        Check.row(x, "person 0 1 0 1 9;person 0 2 0 1 9;way 0 4;way 1 4;");
        holders("two of them", x, 0, 0, 1, 0);
    }

    private static void alone() {
        Doc.says("It GOES, if it is alone,");
        BowingRow x = Check.with(person(0, 1, 9) + "way 0 4;", "must 1=1;");
        day("alone", x, 1, 1, 0, 0, 0, 1, 0);
        holders("alone", x, 0, 0);
        Check.row(x, person(0, 1, 9) + person(0, 1, 9) + "way 0 4;way 1 4;");
        day("two", x, 1, 0, 2, 0, 1, 0, 0);
    }

    private static void timesInThisCall() {
        Doc.says("if it OFFERED times N times in this CALL already,");
        String three = person(0, 1, 999).repeat(3) + "way 0 4;way 1 4;way 2 4;";
        for (int times = 1; times <= 9; times++) {
            BowingRow x = Check.with(three, "times " + times + ";");
            Check.same("offers of three with times " + times, 3 * times, x.call(0, 2));
            // in this CALL: in the next one the two that are left offer as often again
            Check.same("offers of two with times " + times, 2 * times, x.call(1, 2));
            goers("with times " + times, x, 0, 1, 2);
            Check.same("the last holder", 0, x.holder(0, 3 * times));
            Check.same("beyond the last holder", -1, x.holder(0, 3 * times + 1));
        }
        BowingRow x = Check.with(three, "times 2;must 1=1;");
        Check.same("times ahead of must", 6, x.call(0, 2));
    }

    private static void fromTheBellOn() {
        Doc.says("or from the bell on;");
        BowingRow x = Check.with(person(10, 1, 9).repeat(2) + "way 0 4;", "bell 11;");
        Check.same("one minute ahead of the bell", 1, x.call(0, 2));
        Check.law(x, "bell 10;");
        Check.same("at the bell", 0, x.call(0, 2));
        Check.law(x, "bell 9;");
        Check.same("after the bell", 0, x.call(0, 2));
        Check.law(x, "bell 10;must 1=1;");
        Check.same("the bell ahead of must", 0, x.call(0, 2));
        Check.law(x, "bell 11;must 1=1;times 1;");
        Check.same("must ahead of the bell", 2, x.call(0, 2));
        Check.row(x, person(0, 1, 9).repeat(2) + "way 0 4;");
        Check.law(x, "bell 0;");
        Check.same("bell 0 at minute 0", 0, x.call(0, 2));
        Check.law(x, "bell 1;");
        Check.same("bell 1 at minute 0", 1, x.call(0, 2));
        Check.row(x, person(998, 1, 9).repeat(2) + "way 0 4;");
        Check.law(x, "bell 999;");
        Check.same("bell 999 at minute 998", 1, x.call(0, 2));
        Check.law(x, "bell 998;");
        Check.same("bell 998 at minute 998", 0, x.call(0, 2));
        Check.law(x, "");
        Check.same("no bell", 1, x.call(0, 2));
        // it is the MINUTE of the CALL that counts, however many bows there were in it
        Check.row(x, person(0, 1, 9).repeat(3) + "way 0 4;way 1 4;");
        Check.law(x, "bell 1;bow 9;");
        Check.same("bows bring no bell", 2, x.call(0, 2));
    }

    private static void mustAheadOfWay() {
        Doc.says("else it OFFERS, if must holds (it and the next), or by its WAY:");
        String row = "person 0 30 1 5 99;person 0 60 2 7 99;";
        BowingRow x = Check.with(row, "must age=30 and load=1 and errand=5 and older=60 and heavier=2 and longer=7;");
        holders("must holds against way 0", x, 0, 0, 1);
        Check.law(x, "must older=30;");
        holders("must does not hold", x, 0, 0);
        x.way(0, 4);
        holders("by its way, as must does not hold", x, 0, 0, 1, 0);
        // hour of the CALL
        Check.row(x, row.replace("person 0", "person 59"));
        Check.law(x, "must hour=1 and older=60;");
        holders("at minute 59", x, 0, 0);
        Check.row(x, row.replace("person 0", "person 60"));
        holders("at minute 60", x, 0, 0, 1);
    }

    private static void ways() {
        Doc.says("0 GOES;", "4 OFFERS always.");
        BowingRow x = Check.with("person 0 0 0 1 99;person 0 99 0 1 99;knows 0 1;until 0 99;", "");
        int[] offers = {0, 1, 1, 1, 1};
        for (int way = 0; way <= 4; way++) {
            x.way(0, way);
            Check.same("offers by way " + way, offers[way], x.call(0, 2));
        }
        Check.row(x, "person 0 99 0 1 99;person 0 0 0 1 99;until 0 0;");
        offers = new int[] {0, 0, 0, 0, 1};
        for (int way = 0; way <= 4; way++) {
            x.way(0, way);
            Check.same("offers by way " + way + " where only 4 does", offers[way], x.call(0, 2));
        }
    }

    private static void knowing() {
        Doc.says("1 OFFERS to one it knows;");
        String row = person(0, 1, 99).repeat(8) + "way 0 1;way 7 1;";
        BowingRow x = Check.with(row + "knows 1 0;", "");
        holders("told the other way round", x, 0, 0, 1);
        Check.row(x, row + "knows 0 2;");
        holders("one further behind", x, 0, 0);
        Check.row(x, row + "knows 0 7;");
        // who is last and knows the first
        for (int person = 0; person < 7; person++) {
            x.way(person, 4);
        }
        Check.same("the last one knows the first", 8, x.call(0, 2));
        Check.same("so it goes on for ever", -1, x.call(0, 0));
    }

    private static void belowUntil() {
        Doc.says("2 OFFERS as long as its BALANCE is below its until;");
        BowingRow x = Check.with(person(0, 1, 99).repeat(4) + "way 0 2;until 0 2;", "");
        // its balance is 0, then 1, then 2
        goers("until 2", x, 1, 2, 0, 3);
        x.until(0, 1);
        goers("until 1", x, 1, 0, 2, 3);
        x.until(0, 0);
        goers("until 0", x, 0, 1, 2, 3);
        x.until(0, 3);
        goers("until 3", x, 1, 2, 3, 0);
        Check.law(x, "worth 99;");
        x.until(0, 99);
        goers("a balance of 99 is not below 99", x, 1, 0, 2, 3);
        Check.law(x, "worth 98;");
        goers("a balance of 98 is below 99", x, 1, 2, 0, 3);
        Check.law(x, "worth 0;");
        x.until(0, 1);
        goers("a balance of 0 stays below 1", x, 1, 2, 3, 0);
    }

    private static void older() {
        Doc.says("3 OFFERS to who is older;");
        String row = "person 0 %d 0 1 9;person 0 %d 0 1 9;way 0 3;";
        BowingRow x = Check.with(String.format(row, 50, 51), "");
        Check.same("one year older", 1, x.call(0, 2));
        Check.row(x, String.format(row, 50, 50));
        Check.same("of the same age", 0, x.call(0, 2));
        Check.row(x, String.format(row, 50, 49));
        Check.same("one year younger", 0, x.call(0, 2));
        Check.row(x, String.format(row, 0, 99));
        Check.same("0 beside 99", 1, x.call(0, 2));
        Check.row(x, String.format(row, 99, 0));
        Check.same("99 beside 0", 0, x.call(0, 2));
    }

    private static void endless() {
        Doc.says("If nobody can GO any more (the PLACE comes to one that had it in this CALL, with no times),"
            + " the CALL is ENDLESS:");
        BowingRow x = Check.with(person(7, 1, 99).repeat(3) + "way 0 4;way 1 4;way 2 4;", "");
        day("endless", x, 1, 0, 3, 0, 1, 0, 0);
        int[] due = {-1, 7, 3, 7, -1};
        for (int what = 0; what < 5; what++) {
            Check.same("call(0, " + what + ") of an endless one", due[what], x.call(0, what));
        }
        holders("endless", x, 0, 0, 1, 2, 0);
        Check.law(x, "times 9;");
        day("with times", x, 3, 3, 45, 0, 0, 10, 0);
        Check.law(x, "bell 8;");
        day("ahead of the bell", x, 1, 0, 3, 0, 1, 0, 0);
        Check.law(x, "bell 7;");
        day("from the bell on", x, 3, 3, 0, 0, 0, 10, 0);
        Check.law(x, "");
        x.way(2, 0);
        day("one that goes is enough, once", x, 2, 1, 4, 2, 1, 8, 0);
        // one that is due ends what would go on for ever
        Check.law(x, "due 1;");
        day("due", x, 3, 3, 2, 2, 0, 10, 2);
    }

    private static void dayEndsThere() {
        Doc.says("the DAY ends there.");
        BowingRow x = Check.with(person(0, 5, 99) + person(1, 1, 2) + person(4, 1, 99) + person(5, 1, 99)
            + person(50, 1, 99) + "way 2 4;way 3 4;", "");
        day("nobody is served after an endless call", x, 2, 1, 2, 0, 1, 5, 0);
        Check.same("who is there", 0b01100, x.call(1, 3));
        Check.same("who comes later", -1, x.ends(4));
        Check.fails("no call behind it", IndexOutOfBoundsException.class, () -> x.call(2, 0));
    }

    private static void bows() {
        Doc.says("Who GOES is SERVED from the MINUTE of the CALL and bow N for each OFFER on, for its ERRAND;"
            + " then the counter is free.");
        BowingRow x = Check.with(person(0, 10, 99) + person(0, 20, 99) + person(0, 30, 99) + "way 0 4;way 1 4;",
            "bow 9;times 1;");
        Check.same("two offers", 2 * 9 + 30, x.call(0, 4));
        Check.same("free then", 48, x.call(1, 1));
        Check.same("two offers again", 48 + 2 * 9 + 10, x.call(1, 4));
        Check.same("alone, no offer", 76 + 20, x.call(2, 4));
        Check.law(x, "bow 0;times 1;");
        Check.same("bow 0", 30, x.call(0, 4));
        Check.law(x, "times 1;");
        Check.same("no bow", 30, x.call(0, 4));
        Check.law(x, "bow 1;times 1;");
        Check.same("bow 1", 32, x.call(0, 4));
        // the most there can be: eight, nine times each, nine minutes each
        Check.row(x, person(0, 60, 999).repeat(8) + "way 0 4;way 1 4;way 2 4;way 3 4;way 4 4;way 5 4;way 6 4;way 7 4;");
        Check.law(x, "bow 9;times 9;");
        Check.same("the most offers", 72, x.call(0, 2));
        Check.same("the longest call", 72 * 9 + 60, x.call(0, 4));
        Check.same("the next begins then", 708, x.call(1, 1));
        goers("shut then", x, 0, 1);
        Check.same("the latest end", 708 + 63 * 9 + 60, x.day(5));
    }

    private static void passes() {
        Doc.says("Each one ahead of it in the row that OFFERED in this CALL lets it pass, once: a PASS,");
        BowingRow x = Check.with(person(0, 1, 99).repeat(4) + "way 0 4;way 1 4;way 2 4;", "times 3;");
        // 3 goes after three offers: all three let it pass; then 0 goes after three rounds, and none does
        Check.same("passes", 3, x.day(3));
        for (int person = 0; person < 3; person++) {
            Check.same("pass of " + person, 1, x.book(person, 3));
        }
        x.way(0, 0);
        Check.same("the first goes at once: no pass, then two", 2, x.day(3));
        x.way(1, 0);
        Check.same("two go at once: no pass, then one", 1, x.day(3));
        x.way(2, 0);
        Check.same("all go at once", 0, x.day(3));
    }

    private static void onlyThoseAhead() {
        Doc.says("Each one ahead of it in the row that OFFERED");
        BowingRow x = Check.with(person(0, 1, 99).repeat(3) + "way 0 4;way 1 4;way 2 4;", "times 1;");
        day("those behind who goes offered, too, but let nobody pass", x, 3, 3, 5, 0, 0, 3, 0);
        Check.same("who is behind", 0, x.book(1, 0));
        Check.same("nor the other way round", 0, x.book(0, 1));
    }

    private static void worthOfAPass() {
        Doc.says("worth worth (its giver, then who goes; hour of the CALL),");
        BowingRow x = Check.with("person 59 10 1 5 99;person 59 90 3 7 99;person 59 50 2 9 99;way 0 4;way 1 4;",
            "worth older-age+hour;times 1;bow 9;");
        // who goes is 2, not who is next; bows bring no other hour
        Check.same("giver 0", 40, x.book(0, 2));
        Check.same("giver 1", 0, x.book(1, 2));
        Check.same("no pass to the next one", 0, x.book(0, 1));
        Check.row(x, "person 60 10 1 5 99;person 60 90 3 7 99;person 60 50 2 9 99;way 0 4;way 1 4;");
        Check.same("giver 0 in the next hour", 41, x.book(0, 2));
        // a PASS is of the MINUTE of its CALL: 9 is 18 minutes of bows and 9 of the errand later
        Check.law(x, "worth 5;times 1;bow 9;due 5;lapse 27;");
        Check.same("counts from the call on, as far back as lapse", 1, x.call(1, 2) == 0 ? 1 : 0);
        Check.law(x, "worth 5;times 1;bow 9;due 5;lapse 26;");
        Check.same("counts from the call on, further back", 2, x.call(1, 2));
    }

    private static void heldTo() {
        Doc.says("held to 0 to 99.");
        BowingRow x = Check.with(person(0, 1, 9).repeat(2) + "way 0 4;", "");
        String[] worths = {"0", "1", "98", "99", "100", "9999", "0-1", "0-9999", "8192*8192*32", "8192*8192*32-1",
            "8192*8192*64"};
        int[] due = {0, 1, 98, 99, 99, 99, 0, 0, 0, 99, 0};
        for (int i = 0; i < worths.length; i++) {
            Check.law(x, "worth " + worths[i] + ";");
            Check.same("book of worth " + worths[i], due[i], x.book(0, 1));
            Check.same("balance of worth " + worths[i], due[i], x.balance(0));
            Check.same("worth " + worths[i], due[i], x.worth(0, 1, 0));
            Check.same("a pass all the same", 1, x.day(3));
        }
    }

    private static void unaskedNone() {
        Doc.says("(UNASKED none.)");
        BowingRow x = Check.with(person(0, 1, 99).repeat(3) + "way 0 4;way 1 4;", "due 1;");
        // 0 and 1 let 2 pass; 0 goes unasked, then 1
        day("unasked", x, 3, 3, 2, 2, 0, 3, 2);
        Check.same("who goes unasked got nothing", 1, x.balance(0));
        Check.same("no offers", 0, x.call(1, 2));
        holders("unasked", x, 1);
        BowingRow y = Check.with("person 0 5 0 1 99;person 0 9 0 1 99;person 0 0 0 1 99;way 0 4;way 1 4;",
            "due 6;worth age;");
        goers("the second goes unasked ahead of the first", y, 2, 1, 0);
        Check.same("no pass to it", 0, y.book(0, 1));
        Check.same("nor from it", 0, y.book(1, 0));
    }
}
