/** Promises 2 to 5: the TAPE, both texts and their FAULTS. */
final class TextTest {
    private static final String P = "person 0 0 0 1 1;";

    public static void main(String[] args) {
        tape();
        goodRows();
        rowFaults();
        goodLaws();
        lawFaults();
        openOnes();
        whatChanges();
        wrongLengths();
        Check.end();
    }

    private static void tape() {
        BowingRow x = new BowingRow();
        for (int i = 1; i <= 25; i++) {
            Check.same("feed " + i, 20 * i, x.feed(0x20202020, 0x20202020, 0x20202020, 0x20202020, 0x20202020));
        }
        Check.same("feed 26", -1, x.feed(0, 0, 0, 0, 0));
        Check.same("the tape stays", 500, x.count(2));
        Check.same("500 blanks are a row", 0, x.row(500));
        Check.same("no fault", -1, x.fault());
        Check.same("the tape is empty then", 0, x.count(2));
        // the highest byte first: "person 1 2 3 4 5;" by hand
        x.feed(0x70657273, 0x6f6e2031, 0x20322033, 0x20342035, 0x3b000000);
        Check.same("the first 17 bytes alone", 1, x.row(17));
        for (int what = 0; what < 5; what++) {
            Check.same("person(0, " + what + ")", what + 1, x.person(0, what));
        }
        Check.feed(x, P + P);
        Check.same("part of the tape", 1, x.row(17));
        Check.same("the rest of the tape is gone", 0, x.count(2));
    }

    private static void row(String text, int due, int place) {
        BowingRow x = new BowingRow();
        Check.same("row " + text, due, Check.row(x, text));
        Check.same("place of the fault in row " + text, place, x.fault());
    }

    private static void law(String text, int due, int place) {
        BowingRow x = new BowingRow();
        Check.same("law " + text, due, Check.law(x, text));
        Check.same("place of the fault in law " + text, place, x.fault());
    }

    private static void goodRows() {
        row("", 0, -1);
        row("   ", 0, -1);
        row("person 0 0 0 1 1;", 1, -1);
        row("person 999 99 9 60 999;", 1, -1);
        row("  person   0 0 0 1 1  ;  ", 1, -1);
        row("person0 0 0 1 1;way0 4;until0 99;", 1, -1);
        row("person 000000000000000000009 0099 0 01 001;", 1, -1);
        row(P.repeat(8), 8, -1);
        row(P + P + "knows 0 1;knows 1 0;", 2, -1);
        row(P + "way 0 0;".repeat(39), 1, -1);
    }

    private static void rowFaults() {
        row("person 1000 0 0 1 1;", -8, 7);
        row("person 0 100 0 1 1;", -8, 9);
        row("person 0 0 10 1 1;", -8, 11);
        row("person 0 0 0 0 1;", -8, 13);
        row("person 0 0 0 61 1;", -8, 13);
        row("person 0 0 0 1 0;", -8, 15);
        row("person 0 0 0 1 1000;", -8, 15);
        row("person 4294967296 0 0 1 1;", -8, 7);
        row("person 99999999999999999999999999999 0 0 1 1;", -8, 7);
        row(";", -9, 0);
        row("  ;", -9, 2);
        row("persons 1;", -9, 0);
        row("perso 1;", -9, 0);
        row("Person 0 0 0 1 1;", -9, 0);
        row("due 1;", -9, 0);
        row("5;", -9, 0);
        row("person 0 0 0 1;", -9, 14);
        row("person 0 0 0 1 1 1;", -9, 17);
        row("person 0 0 0 1 1 2000;", -9, 17);
        row("person -1 0 0 1 1;", -9, 7);
        row("person 0 0 0 1 1", -9, 16);
        row("person 0 0 0 1 1   ", -9, 19);
        row("person", -9, 6);
        row("person 0 0 0 1 1,", -9, 16);
        row("person\t0 0 0 1 1;", -9, 6);
        row("person \u00ff", -9, 7);
        row("person \0", -9, 7);
        row("knows 0 1;", -8, 6);
        row(P + "knows 0 1;", -8, 25);
        row(P + "knows 0 0;", -8, 25);
        row(P + "knows 0;", -9, 24);
        row(P + "way 0 5;", -8, 23);
        row(P + "way 1 0;", -8, 21);
        row(P + "way;", -9, 20);
        row(P + "until 0 100;", -8, 25);
        row(P + "until 1 100;", -8, 23);
        row("way 0 0;" + P, -8, 4);
        row(P.repeat(9), -7, 136);
        row(P.repeat(8) + "person", -7, 136);
        row(P.repeat(8) + "persons", -9, 136);
        row(P + "way 0 0;".repeat(40), -7, 17 + 8 * 39);
        row(P + "way 0 0;".repeat(39) + "  ways", -9, 17 + 8 * 39 + 2);
        row(P + "way 0 0;".repeat(39) + " until", -7, 17 + 8 * 39 + 1);
        row(P + "way 0 0;".repeat(39) + ";", -9, 17 + 8 * 39);
        row(P + "way 0 9; knows ?", -8, 23);
    }

    private static void goodLaws() {
        law("", 0, -1);
        law("  ", 0, -1);
        law("due 1;due 99;times 1;times 9;bell 0;bell 999;shut 0;shut 999;bow 0;bow 9;", 10, -1);
        law("lapse 1;lapse 999;", 2, -1);
        law("worth 9999;worth 0;", 2, -1);
        law("worth age+load-errand*older/heavier+longer-hour;", 1, -1);
        law("worth(1)*((2));", 1, -1);
        law("must 1<2;must 1>2;must 1=2;", 3, -1);
        law("must 1<2or 2<3and not[1=1];", 1, -1);
        law("must not not not age < 3 and (1)=1;", 1, -1);
        law(" must not [ age < 3 or older = heavier ] and errand > longer * 2 - ( hour / 0 ) ; worth load + 1 ; ", 2, -1);
    }

    private static void lawFaults() {
        law("due 0;", -8, 4);
        law("due 100;", -8, 4);
        law("times 0;", -8, 6);
        law("times 10;", -8, 6);
        law("bell 1000;", -8, 5);
        law("shut 1000;", -8, 5);
        law("bow 10;", -8, 4);
        law("lapse 0;", -8, 6);
        law("lapse 1000;", -8, 6);
        law("dues 1;", -9, 0);
        law("person 0 0 0 1 1;", -9, 0);
        law("age;", -9, 0);
        law("or;", -9, 0);
        law(";", -9, 0);
        law("due;", -9, 3);
        law("due 1", -9, 5);
        law("due 1  ", -9, 7);
        law("due 1 2;", -9, 6);
        law("due age;", -9, 4);
        law("worth;", -9, 5);
        law("worth 10000;", -8, 6);
        law("worth 1+;", -9, 8);
        law("worth +1;", -9, 6);
        law("worth 1<2;", -9, 7);
        law("worth not 1;", -9, 6);
        law("worth [1];", -9, 6);
        law("worth (1;", -9, 8);
        law("worth 1);", -9, 7);
        law("worth (1<2);", -9, 8);
        law("worth ages;", -9, 6);
        law("worth 1 and 2;", -9, 8);
        law("worth 2 age;", -9, 8);
        law("worth 2age;", -9, 7);
        law("worth due;", -9, 6);
        law("must 1;", -9, 6);
        law("must;", -9, 4);
        law("must 1<;", -9, 7);
        law("must 1<2<3;", -9, 8);
        law("must 1<2 and;", -9, 12);
        law("must 1<2 andnot 1<2;", -9, 9);
        law("must [1];", -9, 7);
        law("must [1<2;", -9, 9);
        law("must 1<2];", -9, 8);
        law("must (1<2);", -9, 7);
        law("must (1)<2);", -9, 10);
        law("must not;", -9, 8);
        law("must 1<=2;", -9, 7);
        law("must 1<99999 and and;", -8, 7);
        law("bow 1;".repeat(11), -7, 60);
        law("bow 1;".repeat(10) + " bows", -9, 61);
        law("bow 1;".repeat(10) + " worth", -7, 61);
        law("bow 1;".repeat(10), 10, -1);
    }

    private static void openOnes() {
        law("worth ((((((1))))));", 1, -1);
        law("worth (((((((1)))))));", -7, 12);
        law("worth ((((((1))))))+((((((1))))));", 1, -1);
        law("must [[[[[[1=1]]]]]];", 1, -1);
        law("must [[[[[[[1=1]]]]]]];", -7, 11);
        law("must not not not not not not 1=1;", 1, -1);
        law("must not not not not not not not 1=1;", -7, 29);
        law("must not not not not not not 1=1 and not not not not not not 1=1;", 1, -1);
        law("must not [not [not [1=1]]];", 1, -1);
        law("must not [not [not [(1)=1]]];", -7, 20);
        law("must not [not [not [1=(1)]]];", -7, 22);
        law("must not [not [not [1=1]]] and (1)=1;", 1, -1);
        law("must [[[((((1))))=1]]];", -7, 11);
        law("must [[[[[[?", -9, 11);
    }

    private static void whatChanges() {
        BowingRow x = Check.with("person 5 6 7 8 9;person 6 6 7 8 9;way 1 3;", "due 7;bow 2;");
        x.tell(1);
        x.image();
        Check.same("a row with a fault", -9, Check.row(x, "person 0 0 0 1 1;;"));
        Check.same("its place", 17, x.fault());
        Check.same("the tape is empty", 0, x.count(2));
        Check.same("the persons stay", 2, x.told(0));
        Check.same("the first stays", 5, x.person(0, 0));
        Check.same("its way stays", 3, x.person(1, 5));
        Check.same("the served row stays", 1, x.count(0));
        Check.same("images stay", 1, x.count(1));
        Check.same("a law with a fault", -8, Check.law(x, "due 9;due 0;"));
        Check.same("its place", 10, x.fault());
        Check.same("the tape is empty", 0, x.count(2));
        Check.same("the law stays", 7, x.told(2));
        Check.same("its rules stay", 2, x.told(1));
        Check.same("a law", 1, Check.law(x, "times 3;"));
        Check.same("no fault", -1, x.fault());
        Check.same("no due any more", -1, x.told(2));
        Check.same("no bow any more", 0, x.told(6));
        Check.same("the served row stays with a law", 1, x.count(0));
        Check.same("images stay with a law", 1, x.count(1));
        Check.same("a row", 1, Check.row(x, P));
        Check.same("the law stays with a row", 3, x.told(3));
        Check.same("the served row goes", 0, x.count(0));
        Check.same("images go", 0, x.count(1));
        Check.same("the way goes", 0, x.person(0, 5));
    }

    private static void wrongLengths() {
        BowingRow x = new BowingRow();
        Check.same("a fault", -9, Check.row(x, "what"));
        Check.feed(x, P);
        Check.fails("row(-1)", IllegalArgumentException.class, () -> x.row(-1));
        Check.fails("row(21)", IllegalArgumentException.class, () -> x.row(21));
        Check.fails("law(-1)", IllegalArgumentException.class, () -> x.law(-1));
        Check.fails("law(21)", IllegalArgumentException.class, () -> x.law(21));
        Check.fails("law(MIN)", IllegalArgumentException.class, () -> x.law(Integer.MIN_VALUE));
        Check.fails("row(MAX)", IllegalArgumentException.class, () -> x.row(Integer.MAX_VALUE));
        Check.same("the tape stays", 20, x.count(2));
        Check.same("the fault stays", 0, x.fault());
        Check.same("zeros can't stand there", -9, x.row(20));
        Check.same("their place", 17, x.fault());
        Check.same("row(0)", 0, x.row(0));
        Check.fails("row(1) of an empty tape", IllegalArgumentException.class, () -> x.row(1));
    }
}
