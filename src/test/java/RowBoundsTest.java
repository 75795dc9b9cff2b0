/** Terms, the ROW: every bound of its text, just inside and just outside; with a FAULT all stays. */
final class RowBoundsTest {
    private static final String P = "person 0 0 0 1 1;";
    private static final String WAY = "way 0 0;";

    public static void main(String[] args) {
        fiveHundredBytes();
        fortyClauses();
        eightPersons();
        minutes();
        ages();
        loads();
        errands();
        patiences();
        knowing();
        ways();
        untils();
        toldAhead();
        theLastCounts();
        numbers();
        words();
        blanks();
        endsTooEarly();
        whatCannotStand();
        theFirstFromTheLeft();
        theLeastOfOne();
        Check.end();
    }

    private static BowingRow good(String text, int persons) {
        BowingRow x = new BowingRow();
        Check.same("row " + text, persons, Check.row(x, text));
        Check.same("fault() of row " + text, -1, x.fault());
        Check.same("told(0) of row " + text, persons, x.told(0));
        return x;
    }

    private static void fact(String text, int person, int what, int due) {
        Check.same("fact " + what + " by " + text, due, good(text, person + 1).person(person, what));
    }

    private static void bad(String text, int fault, int place) {
        Twins.badRow(text, fault, place);
    }

    private static void fiveHundredBytes() {
        Doc.says("TWO TEXTS of up to 500 bytes.");
        good("", 0);
        good(" ", 0);
        good(" ".repeat(500), 0);
        // the very last of 500 bytes is read
        BowingRow x = good(" ".repeat(483) + "person 1 2 3 4 5;", 1);
        Check.same("the last byte's number", 5, x.person(0, 4));
        bad(" ".repeat(499) + "?", 1, 499);
        bad(" ".repeat(484) + "person 1 2 3 4 5", 1, 500);
        // as many signs, WORDS and numbers as find room
        bad(";".repeat(500), 1, 0);
        bad("\u00ff".repeat(500), 1, 0);
        bad("a1".repeat(250), 1, 0);
        bad("z".repeat(500), 1, 0);
        bad("9".repeat(500), 1, 0);
    }

    private static void fortyClauses() {
        Doc.says("A ROW: { CLAUSE \";\" }, at most 40.", "3 a CLAUSE, PERSON or RULE too many (at its word)");
        good(P + WAY.repeat(38), 1);
        good(P + WAY.repeat(39), 1);
        good(P + WAY.repeat(39) + " ", 1);
        bad(P + WAY.repeat(40), 3, 17 + 39 * 8);
        bad(P + WAY.repeat(39) + "   " + WAY, 3, 17 + 39 * 8 + 3);
        // the forty-first is one too many by its word alone, whichever it is and whatever comes behind it
        bad(P + WAY.repeat(39) + "way", 3, 17 + 39 * 8);
        bad(P + WAY.repeat(39) + "until?", 3, 17 + 39 * 8);
        bad(P + WAY.repeat(39) + "knows 9 9;", 3, 17 + 39 * 8);
        bad(P + WAY.repeat(39) + "person", 3, 17 + 39 * 8);
        // eight PERSONS and all other kinds count as CLAUSES alike
        String all = P.repeat(8) + "knows0 1;".repeat(11) + "way0 0;".repeat(11) + "until0 0;".repeat(10);
        good(all, 8);
        bad(all + "way0 0;", 3, all.length());
    }

    private static void eightPersons() {
        Doc.says("CLAUSE: \"person\" M A L E P (PERSONS, numbered from 0 on, 8 at most: ");
        good(P.repeat(7), 7);
        BowingRow x = good(P.repeat(7) + "person 7 7 7 7 7;", 8);
        Check.same("the eighth is number 7", 7, x.person(7, 0));
        bad(P.repeat(9), 3, 8 * 17);
        bad(P.repeat(8) + WAY + P, 3, 8 * 17 + 8);
        bad(P.repeat(8) + " person", 3, 8 * 17 + 1);
        bad(P.repeat(8) + "person 9999", 3, 8 * 17);
    }

    private static void minutes() {
        Doc.says("comes at MINUTE M, 0 to 999;");
        fact("person 0 0 0 1 1;", 0, 0, 0);
        fact("person 1 0 0 1 1;", 0, 0, 1);
        fact("person 998 0 0 1 1;", 0, 0, 998);
        fact("person 999 0 0 1 1;", 0, 0, 999);
        bad("person 1000 0 0 1 1;", 2, 7);
        bad("person 9999 0 0 1 1;", 2, 7);
        bad("person -1 0 0 1 1;", 1, 7);
    }

    private static void ages() {
        Doc.says("AGE 0 to 99,");
        fact("person 0 0 0 1 1;", 0, 1, 0);
        fact("person 0 99 0 1 1;", 0, 1, 99);
        bad("person 0 100 0 1 1;", 2, 9);
        bad("person 0 999 0 1 1;", 2, 9);
        bad("person 0 -1 0 1 1;", 1, 9);
    }

    private static void loads() {
        Doc.says("LOAD 0 to 9,");
        fact("person 0 0 0 1 1;", 0, 2, 0);
        fact("person 0 0 9 1 1;", 0, 2, 9);
        bad("person 0 0 10 1 1;", 2, 11);
        bad("person 0 0 99 1 1;", 2, 11);
        bad("person 0 0 -1 1 1;", 1, 11);
    }

    private static void errands() {
        Doc.says("an ERRAND of 1 to 60 MINUTES,");
        bad("person 0 0 0 0 1;", 2, 13);
        bad("person 0 0 0 000 1;", 2, 13);
        fact("person 0 0 0 1 1;", 0, 3, 1);
        fact("person 0 0 0 60 1;", 0, 3, 60);
        bad("person 0 0 0 61 1;", 2, 13);
        bad("person 0 0 0 -1 1;", 1, 13);
    }

    private static void patiences() {
        Doc.says("PATIENCE 1 to 999),");
        bad("person 0 0 0 1 0;", 2, 15);
        fact("person 0 0 0 1 1;", 0, 4, 1);
        fact("person 0 0 0 1 999;", 0, 4, 999);
        bad("person 0 0 0 1 1000;", 2, 15);
        bad("person 0 0 0 1 -1;", 1, 15);
    }

    private static void knowing() {
        Doc.says("\"knows\" K J (both one another; not one and the same),");
        BowingRow x = good(P.repeat(8) + "knows 0 7;knows 2 1;knows 2 1;", 8);
        int[] due = {128, 4, 2, 0, 0, 0, 0, 1};
        for (int person = 0; person < 8; person++) {
            Check.same("whom " + person + " knows", due[person], x.person(person, 7));
        }
        bad(P + P + "knows 0 0;", 2, 42);
        bad(P + P + "knows 1 1;", 2, 42);
        bad(P + P + "knows 1 01;", 2, 42);
        bad(P.repeat(8) + "knows 7 7;", 2, 144);
    }

    private static void ways() {
        Doc.says("or \"way\" K N (0 to 4; 0 without),");
        fact(P, 0, 5, 0);
        fact(P + "way 0 0;", 0, 5, 0);
        fact(P + "way 0 1;", 0, 5, 1);
        fact(P + "way 0 4;", 0, 5, 4);
        bad(P + "way 0 5;", 2, 23);
        bad(P + "way 0 9999;", 2, 23);
        bad(P + "way 0 -1;", 1, 23);
        bad(P + "way 0;", 1, 22);
    }

    private static void untils() {
        Doc.says("\"until\" K N (0 to 99; 3 without).");
        fact(P, 0, 6, 3);
        fact(P + "until 0 0;", 0, 6, 0);
        fact(P + "until 0 99;", 0, 6, 99);
        bad(P + "until 0 100;", 2, 25);
        bad(P + "until 0 -1;", 1, 25);
        bad(P + "until 0;", 1, 24);
    }

    private static void toldAhead() {
        Doc.says("K, J: told ahead.");
        fact(P + P + "way 1 2;", 1, 5, 2);
        fact(P + P + "until 1 5;", 1, 6, 5);
        fact(P + P + "knows 1 0;", 1, 7, 1);
        // with nobody told ahead there is not even a 0
        bad("way 0 0;" + P, 2, 4);
        bad("until 0 0;" + P, 2, 6);
        bad("knows 0 1;" + P + P, 2, 6);
        // those that are told behind it are none such
        bad(P + "way 1 0;" + P, 2, 21);
        bad(P + "until 1 0;" + P, 2, 23);
        bad(P + "knows 1 0;" + P, 2, 23);
        bad(P + "knows 0 1;" + P, 2, 25);
        bad(P.repeat(8) + "way 8 0;", 2, 140);
        bad(P + "way 4294967296 0;", 2, 21);
    }

    private static void theLastCounts() {
        Doc.says("Of way and until of one the last counts.");
        fact(P + "way 0 4;way 0 2;", 0, 5, 2);
        fact(P + "way 0 4;way 0 0;", 0, 5, 0);
        fact(P + "until 0 9;until 0 99;until 0 7;", 0, 6, 7);
        // of one: another one's does not count for it
        fact(P + P + "way 1 4;way 0 2;", 1, 5, 4);
        fact(P + P + "until 1 9;until 0 2;", 1, 6, 9);
    }

    private static void numbers() {
        Doc.says("Numbers: digits, as many as stand there;", "2 a number that is none such;");
        fact("person 0000000000999 0099 09 060 00999;", 0, 0, 999);
        fact("person " + "0".repeat(480) + "7 0 0 1 1;", 0, 0, 7);
        // numbers that would be good ones, if they wrapped or were cut off
        bad("person 4294967296 0 0 1 1;", 2, 7);
        bad("person 18446744073709551617 0 0 1 1;", 2, 7);
        bad("person 2147483648 0 0 1 1;", 2, 7);
        bad("person " + "9".repeat(480) + " 0 0 1 1;", 2, 7);
        bad("person 0 0 0 1 42949672961;", 2, 15);
        // as many as stand there: not two numbers
        bad("person 00 0 1 1;", 1, 15);
    }

    private static void words() {
        Doc.says("WORDS: small letters, as many as stand there;");
        good("person0 0 0 1 1;way0 1;until0 2;", 1);
        bad("persons 0 0 0 1 1;", 1, 0);
        bad("perso 0 0 0 1 1;", 1, 0);
        bad("personway 0 0 0 1 1;", 1, 0);
        bad("Person 0 0 0 1 1;", 1, 0);
        bad("persoN 0 0 0 1 1;", 1, 0);
        bad(P + "ways 0 0;", 1, 17);
        bad(P + "wa 0 0;", 1, 17);
        bad(P + "untill 0 0;", 1, 17);
        bad(P + P + "know 0 1;", 1, 34);
        bad("person 0 0 0 1 1way 0 0;", 1, 16);
        // every small letter belongs to the WORD, from the first to the last
        for (char letter = 'a'; letter <= 'z'; letter++) {
            bad(P + "way" + letter + " 0 0;", 1, 17);
            bad(P + letter + "way 0 0;", 1, 17);
        }
        // a capital one never does: it can't stand behind the WORD
        bad("personA 0 0 0 1 1;", 1, 6);
        bad("personZ 0 0 0 1 1;", 1, 6);
        bad(P + "wayS 0 0;", 1, 20);
        otherLetters("person 0 0 0 1 1;", 6);
        otherLetters("knows 0 1;", 5);
        otherLetters("way 0 0;", 3);
        otherLetters("until 0 0;", 5);
    }

    /** With any one letter of it changed a WORD is none. */
    private static void otherLetters(String clause, int length) {
        for (int at = 0; at < length; at++) {
            StringBuilder text = new StringBuilder(clause);
            text.setCharAt(at, clause.charAt(at) == 'q' ? 'v' : 'q');
            bad(P + P + text, 1, 34);
        }
    }

    private static void blanks() {
        Doc.says("blanks (32) may stand ahead of all these, and at the end.");
        good("   person   0   0   0   1   1   ;   way   0   1   ;   ", 1);
        good("person 0 0 0 1 1 ;way 0 1 ;", 1);
        good("person0 0 0 1 1;way0 1;", 1);
        bad("per son 0 0 0 1 1;", 1, 0);
        bad("person 0 0 0 1 1 1;", 1, 17);
        // no other sign is a blank, not even those that look like one
        bad("\tperson 0 0 0 1 1;", 1, 0);
        bad("person 0 0 0 1 1;\n", 1, 17);
        bad("person 0 0 0 1 1;\r", 1, 17);
        bad("person 0 0 0 1 1;\u0000", 1, 17);
        bad("person 0 0 0 1 1;\u001f", 1, 17);
        bad("person 0 0 0 1 1;\u00a0", 1, 17);
    }

    private static void endsTooEarly() {
        Doc.says("(at the length, if the text ends too early);");
        String text = P + "knows 0 1;";
        // wherever a CLAUSE is cut off, the text ends too early there
        for (int length = 6; length < P.length(); length++) {
            bad(P.substring(0, length), 1, length);
        }
        bad("person ", 1, 7);
        bad("person 0 0 0 1 1   ", 1, 19);
        bad(P + text.substring(17, 22), 1, 22);
        bad(P + P + "knows 0", 1, 41);
        bad(P + P + "knows 0 1", 1, 43);
        bad(P + "way", 1, 20);
        bad(P + "way 0 ", 1, 23);
        bad(P + "until 0 0", 1, 26);
        // a WORD that is cut off stands there, and can't
        for (int length = 1; length < 6; length++) {
            bad("person".substring(0, length), 1, 0);
        }
    }

    private static void whatCannotStand() {
        Doc.says("1 what can't stand there");
        bad(";", 1, 0);
        bad(" ;", 1, 1);
        bad(P + ";", 1, 17);
        bad("0", 1, 0);
        bad("due 1;", 1, 0);
        bad("must 1=1;", 1, 0);
        bad("age;", 1, 0);
        bad("person age 0 0 1 1;", 1, 7);
        bad("person (0) 0 0 1 1;", 1, 7);
        bad("person 0,0 0 1 1;", 1, 8);
        bad("person 0 0 0 1;", 1, 14);
        bad("person 0 0 0 1 1 person", 1, 17);
        bad("person 0 0 0 1 1:", 1, 16);
        // bytes above 127 and the signs beside the small letters and the digits
        bad("\u0080", 1, 0);
        bad("\u00ff", 1, 0);
        bad("\u00f0erson", 1, 0);
        bad("`", 1, 0);
        bad("{", 1, 0);
        bad("/", 1, 0);
        bad(":", 1, 0);
        bad("person`0 0 0 1 1;", 1, 6);
        bad("person 0{0 0 1 1;", 1, 8);
        bad("person /0 0 0 1 1;", 1, 7);
    }

    private static void theFirstFromTheLeft() {
        Doc.says("FAULTS, the first from the left, at its first byte:");
        bad("person 1000 100 10 0 0 ?", 2, 7);
        bad("person 0 ? 1000", 1, 9);
        bad("person 0 0 0 1 1000?", 2, 15);
        bad(P + "way 0 9;way 9 0;", 2, 23);
        bad(P + "way 9 9;", 2, 21);
        bad(P + "knows 9 9;", 2, 23);
        bad(P.repeat(9) + "?", 3, 136);
        bad(P.repeat(7) + "person 0 0 0 1 0;" + P + P, 2, 7 * 17 + 15);
        bad(P.repeat(8) + "way 0 5;" + P, 2, 8 * 17 + 6);
        bad(P.repeat(8) + "?" + P, 1, 8 * 17);
    }

    private static void theLeastOfOne() {
        Doc.says("of one the least.");
        // the forty-first and what can't stand there at one place
        bad(P + WAY.repeat(39) + "?", 1, 17 + 39 * 8);
        bad(P + WAY.repeat(39) + ";", 1, 17 + 39 * 8);
        bad(P + WAY.repeat(39) + "ways", 1, 17 + 39 * 8);
        bad(P + WAY.repeat(39) + "7", 1, 17 + 39 * 8);
        bad(P.repeat(8) + "persons", 1, 8 * 17);
    }
}
