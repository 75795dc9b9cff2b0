import java.util.NoSuchElementException;

/** Promises 6 to 11: what was told, and what the LAW says to two PERSONS. */
final class LawTest {
    private static final String THREE =
        "person 10 30 1 5 100;person 20 60 9 7 200;person 5 20 0 3 300;knows 0 2;way 1 3;until 1 9;way 1 2;";

    public static void main(String[] args) {
        told();
        persons();
        ways();
        untils();
        musts();
        worths();
        wrongOnes();
        lastCounts();
        Check.end();
    }

    private static void told() {
        BowingRow x = Check.with(THREE, "due 5;times 4;bell 3;shut 2;bow 1;lapse 6;");
        int[] due = {3, 6, 5, 4, 3, 2, 1, 6};
        for (int what = 0; what < due.length; what++) {
            Check.same("told(" + what + ")", due[what], x.told(what));
        }
        Check.fails("told(-1)", IllegalArgumentException.class, () -> x.told(-1));
        Check.fails("told(8)", IllegalArgumentException.class, () -> x.told(8));
        Check.fails("told(9)", IllegalArgumentException.class, () -> x.told(9));
        Check.law(x, "worth 1;must 1=1;");
        int[] without = {3, 2, -1, -1, -1, 999, 0, -1};
        for (int what = 0; what < due.length; what++) {
            Check.same("told(" + what + ") without", without[what], x.told(what));
        }
    }

    private static void lastCounts() {
        BowingRow x = Check.with(THREE, "due 5;bow 1;due 9;bow 0;worth 3;must 1=1;worth 4;must 1=2;shut 8;shut 7;");
        Check.same("the last due", 9, x.told(2));
        Check.same("the last bow", 0, x.told(6));
        Check.same("the last shut", 7, x.told(5));
        Check.same("the last worth", 4, x.worth(0, 1, 0));
        Check.same("the last must", 0, x.must(0, 1, 0) ? 1 : 0);
        Check.same("all rules are counted", 10, x.told(1));
    }

    private static void persons() {
        BowingRow x = Check.with(THREE, "");
        int[][] due = {{10, 30, 1, 5, 100, 0, 3, 4}, {20, 60, 9, 7, 200, 2, 9, 0}, {5, 20, 0, 3, 300, 0, 3, 1}};
        for (int person = 0; person < 3; person++) {
            for (int what = 0; what < 8; what++) {
                Check.same("person(" + person + ", " + what + ")", due[person][what], x.person(person, what));
            }
        }
        Check.fails("person(3, 0)", NoSuchElementException.class, () -> x.person(3, 0));
        Check.fails("person(-1, 0)", NoSuchElementException.class, () -> x.person(-1, 0));
        Check.fails("person(3, 8)", NoSuchElementException.class, () -> x.person(3, 8));
        Check.fails("person(0, 8)", IllegalArgumentException.class, () -> x.person(0, 8));
        Check.fails("person(0, -1)", IllegalArgumentException.class, () -> x.person(0, -1));
    }

    private static void ways() {
        BowingRow x = Check.with(THREE, "");
        Check.same("way(1, 4)", 2, x.way(1, 4));
        Check.same("way(1, 0)", 4, x.way(1, 0));
        Check.same("way(0, 1)", 0, x.way(0, 1));
        Check.fails("way(1, 5)", IllegalArgumentException.class, () -> x.way(1, 5));
        Check.fails("way(1, -1)", IllegalArgumentException.class, () -> x.way(1, -1));
        Check.fails("way(3, 9)", NoSuchElementException.class, () -> x.way(3, 9));
        Check.same("a wrong way changes nothing", 0, x.person(1, 5));
        Check.same("nor another person's", 1, x.person(0, 5));
    }

    private static void untils() {
        BowingRow x = Check.with(THREE, "");
        Check.same("until(1, 99)", 9, x.until(1, 99));
        Check.same("until(1, 0)", 99, x.until(1, 0));
        Check.same("until(0, 5)", 3, x.until(0, 5));
        Check.fails("until(1, 100)", IllegalArgumentException.class, () -> x.until(1, 100));
        Check.fails("until(1, -1)", IllegalArgumentException.class, () -> x.until(1, -1));
        Check.fails("until(-1, 100)", NoSuchElementException.class, () -> x.until(-1, 100));
        Check.same("a wrong until changes nothing", 0, x.person(1, 6));
        Check.same("until is kept", 5, x.person(0, 6));
    }

    private static void holds(String claim, boolean due) {
        BowingRow x = Check.with(THREE, "must " + claim + ";");
        Check.same("must " + claim, due ? 1 : 0, x.must(0, 1, 3) ? 1 : 0);
    }

    private static void musts() {
        BowingRow x = Check.with(THREE, "");
        Check.same("must without", 0, x.must(0, 1, 0) ? 1 : 0);
        Check.law(x, "must older>age;");
        Check.same("older than 0", 1, x.must(0, 1, 0) ? 1 : 0);
        Check.same("older than 1", 0, x.must(1, 0, 0) ? 1 : 0);
        Check.same("0 beside 2", 0, x.must(0, 2, 0) ? 1 : 0);
        Check.law(x, "must hour>15;");
        Check.same("hour 15", 0, x.must(0, 1, 15) ? 1 : 0);
        Check.same("hour 16", 1, x.must(0, 1, 16) ? 1 : 0);
        holds("1<2", true);
        holds("2<2", false);
        holds("2>1", true);
        holds("2>2", false);
        holds("2=2", true);
        holds("2=1", false);
        holds("1=2 and 1=2 or 1=1", true);
        holds("1=1 or 1=1 and 1=2", true);
        holds("[1=1 or 1=1] and 1=2", false);
        holds("not 1=2 and 1=2", false);
        holds("not [1=2 and 1=2]", true);
        holds("not 1=1 or 1=1", true);
        holds("not not 1=1", true);
        holds("not not not 1=1", false);
        holds("1=2 or 1=2 or 1=1", true);
        holds("1=1 and 1=1 and 1=2", false);
        holds("1+1=2 and 2*3=6", true);
        holds("age=30 and load=1 and errand=5 and older=60 and heavier=9 and longer=7 and hour=3", true);
    }

    private static void worthIs(String formula, int due) {
        BowingRow x = Check.with(THREE, "worth " + formula + ";");
        Check.same("worth " + formula, due, x.worth(0, 1, 16));
    }

    private static void worths() {
        BowingRow x = Check.with(THREE, "");
        Check.same("worth without", 1, x.worth(0, 1, 0));
        worthIs("0", 0);
        worthIs("99", 99);
        worthIs("100", 99);
        worthIs("0-1", 0);
        worthIs("2+3*4", 14);
        worthIs("(2+3)*4", 20);
        worthIs("20-5-5", 10);
        worthIs("20-5+5", 20);
        worthIs("80/8/2", 5);
        worthIs("80/8*2", 20);
        worthIs("7*3/2", 10);
        worthIs("100/7", 14);
        worthIs("(0-7)/2+10", 7);
        worthIs("7/(0-2)+10", 7);
        worthIs("5/0+3", 3);
        worthIs("5/(1-1)+2", 2);
        worthIs("9999*9999*9999/(0-9999*9999)", 10);
        worthIs("2048*1024*1024/(0-1)", 0);
        worthIs("2048*1024*1024/(0-1)-2048*1024*1024+4", 4);
        worthIs("age", 30);
        worthIs("load", 1);
        worthIs("errand", 5);
        worthIs("older", 60);
        worthIs("heavier", 9);
        worthIs("longer", 7);
        worthIs("hour", 16);
    }

    private static void wrongOnes() {
        BowingRow x = Check.with(THREE, "must 1=1;worth 5;");
        Check.fails("must(0, 0, 0)", IllegalArgumentException.class, () -> x.must(0, 0, 0));
        Check.fails("must(0, 1, 17)", IllegalArgumentException.class, () -> x.must(0, 1, 17));
        Check.fails("must(0, 1, -1)", IllegalArgumentException.class, () -> x.must(0, 1, -1));
        Check.fails("must(0, 3, 17)", NoSuchElementException.class, () -> x.must(0, 3, 17));
        Check.fails("must(3, 3, 0)", NoSuchElementException.class, () -> x.must(3, 3, 0));
        Check.fails("must(-1, 0, 0)", NoSuchElementException.class, () -> x.must(-1, 0, 0));
        Check.fails("worth(1, 1, 0)", IllegalArgumentException.class, () -> x.worth(1, 1, 0));
        Check.fails("worth(0, 1, 17)", IllegalArgumentException.class, () -> x.worth(0, 1, 17));
        Check.fails("worth(0, 1, -1)", IllegalArgumentException.class, () -> x.worth(0, 1, -1));
        Check.fails("worth(0, 3, 0)", NoSuchElementException.class, () -> x.worth(0, 3, 0));
        Check.fails("worth(9, 0, 99)", NoSuchElementException.class, () -> x.worth(9, 0, 99));
        Check.same("a later row is asked anew", 1, Check.row(x, "person 0 1 1 1 1;"));
        Check.fails("must(0, 1, 0) of one person", NoSuchElementException.class, () -> x.must(0, 1, 0));
        // answers that are kept must not outlive their texts
        Check.law(x, "worth older;must older>5;");
        Check.row(x, "person 0 1 1 1 1;person 0 9 1 1 1;");
        Check.same("worth of a first row", 9, x.worth(0, 1, 0));
        Check.same("must of a first row", 1, x.must(0, 1, 0) ? 1 : 0);
        Check.row(x, "person 0 1 1 1 1;person 0 5 1 1 1;");
        Check.same("worth of a second row", 5, x.worth(0, 1, 0));
        Check.same("must of a second row", 0, x.must(0, 1, 0) ? 1 : 0);
        Check.law(x, "worth older+1;must older>4;");
        Check.same("worth by a second law", 6, x.worth(0, 1, 0));
        Check.same("must by a second law", 1, x.must(0, 1, 0) ? 1 : 0);
    }
}
