/** Terms, the LAW: every bound of its text and of its VALUES, just inside and just outside; with a FAULT all stays. */
final class LawBoundsTest {
    private static final String TWO = "person 3 30 1 5 100;person 4 60 9 7 100;";

    public static void main(String[] args) {
        fiveHundredBytes();
        tenRules();
        dues();
        times();
        bells();
        shuts();
        bows();
        lapses();
        theLastCounts();
        without();
        claims();
        comparisons();
        sums();
        operandNumbers();
        operandWords();
        hours();
        wrapping();
        dividing();
        bothSidesAreWorked();
        numbers();
        words();
        blanks();
        endsTooEarly();
        whatCannotStand();
        openSigns();
        openBrackets();
        openNots();
        openOnesTogether();
        theFirstFromTheLeft();
        theLeastOfOne();
        Check.end();
    }

    private static BowingRow good(String text, int rules) {
        BowingRow x = Check.with(TWO, "");
        Check.same("law " + text, rules, Check.law(x, text));
        Check.same("fault() of law " + text, -1, x.fault());
        Check.same("told(1) of law " + text, rules, x.told(1));
        return x;
    }

    private static void told(String text, int what, int due) {
        int rules = (int) text.chars().filter(sign -> sign == ';').count();
        Check.same("told(" + what + ") by " + text, due, good(text, rules).told(what));
    }

    private static void bad(String text, int fault, int place) {
        Twins.badLaw(text, fault, place);
    }

    /** Whether it holds for 30, 1, 5 beside 60, 9, 7 at hour 16. */
    private static void holds(String claim, boolean due) {
        Check.same("must " + claim, due ? 1 : 0, good("must " + claim + ";", 1).must(0, 1, 16) ? 1 : 0);
    }

    private static void worth(String sum, int due) {
        Check.same("worth " + sum, due, good("worth " + sum + ";", 1).worth(0, 1, 16));
    }

    private static void fiveHundredBytes() {
        Doc.says("TWO TEXTS of up to 500 bytes.");
        good("", 0);
        good(" ".repeat(500), 0);
        told(" ".repeat(494) + "bow 9;", 6, 9);
        bad(" ".repeat(499) + "?", 1, 499);
        bad(" ".repeat(495) + "bow 9", 1, 500);
        // as many signs, WORDS and numbers as find room
        bad(";".repeat(500), 1, 0);
        bad("a1".repeat(250), 1, 0);
        bad("worth 1" + "+1".repeat(246) + "+", 1, 500);
        bad("worth 1" + "+1".repeat(246) + "?", 1, 499);
        // as many operands as find room: 247 and what joins them
        worth("1" + "+1".repeat(160) + "-1".repeat(86), 75);
        worth("1" + "+1".repeat(98) + "*1".repeat(148), 99);
        worth("0" + "-1".repeat(120) + "+1".repeat(126), 6);
        holds("1=2" + "or 1=2".repeat(80) + "or 1=1", true);
        holds("1=1" + "and 1=1".repeat(69), true);
        holds("1=1" + "and 1=1".repeat(68) + "and 1=2", false);
        lawAfterLaw();
    }

    /** However long the texts ahead of it were, good ones or not, a LAW has all its room. */
    private static void lawAfterLaw() {
        BowingRow x = Check.with(TWO, "");
        String longest = "worth 1" + "+1".repeat(246) + ";";
        for (int i = 0; i < 4; i++) {
            Check.same("a long law", 1, Check.law(x, longest));
            Check.same("a long law with a fault", -9, Check.law(x, longest.replace(';', '?')));
        }
        Check.law(x, "worth 1" + "+1".repeat(160) + "-1".repeat(86) + ";");
        Check.same("worth of a long law after others", 75, x.worth(0, 1, 0));
        for (int i = 0; i < 2; i++) {
            Check.law(x, "must not not 1=1;");
        }
        for (int i = 0; i < 2; i++) {
            Check.law(x, "worth 9-3;");
            Check.same("worth of a short law after others", 6, x.worth(0, 1, 0));
        }
    }

    private static void tenRules() {
        Doc.says("A LAW: { RULE \";\" }, at most 10.", "3 a CLAUSE, PERSON or RULE too many (at its word)");
        good("bow 1;".repeat(9), 9);
        good("bow 1;".repeat(10), 10);
        good("worth 1;".repeat(10), 10);
        good("must 1=1;".repeat(10) + "   ", 10);
        bad("bow 1;".repeat(11), 3, 60);
        bad("bow 1;".repeat(10) + "  bow 1;", 3, 62);
        bad("bow 1;".repeat(10) + "worth", 3, 60);
        bad("bow 1;".repeat(10) + "must ?", 3, 60);
        bad("bow 1;".repeat(10) + "due 0;", 3, 60);
        bad("worth 1;".repeat(11), 3, 80);
        bad("must 1=1;".repeat(11), 3, 90);
    }

    private static void dues() {
        Doc.says("RULE: \"due\" N (1 to 99),");
        bad("due 0;", 2, 4);
        told("due 1;", 2, 1);
        told("due 99;", 2, 99);
        bad("due 100;", 2, 4);
        bad("due -1;", 1, 4);
        bad("due;", 1, 3);
    }

    private static void times() {
        Doc.says("\"times\" N (1 to 9),");
        bad("times 0;", 2, 6);
        told("times 1;", 3, 1);
        told("times 9;", 3, 9);
        bad("times 10;", 2, 6);
        bad("times -1;", 1, 6);
    }

    private static void bells() {
        Doc.says("\"bell\" M, \"shut\" M (0 to 999),");
        told("bell 0;", 4, 0);
        told("bell 999;", 4, 999);
        bad("bell 1000;", 2, 5);
        bad("bell -1;", 1, 5);
    }

    private static void shuts() {
        Doc.says("\"bell\" M, \"shut\" M (0 to 999),");
        told("shut 0;", 5, 0);
        told("shut 999;", 5, 999);
        bad("shut 1000;", 2, 5);
        bad("shut -1;", 1, 5);
    }

    private static void bows() {
        Doc.says("\"bow\" N (0 to 9),");
        told("bow 0;", 6, 0);
        told("bow 9;", 6, 9);
        bad("bow 10;", 2, 4);
        bad("bow -1;", 1, 4);
    }

    private static void lapses() {
        Doc.says("\"lapse\" N (1 to 999), \"worth\" E, or \"must\" C.");
        bad("lapse 0;", 2, 6);
        told("lapse 1;", 7, 1);
        told("lapse 999;", 7, 999);
        bad("lapse 1000;", 2, 6);
        bad("lapse -1;", 1, 6);
        bad("worth;", 1, 5);
        bad("must;", 1, 4);
    }

    private static void theLastCounts() {
        Doc.says("Of one word the last counts;");
        told("due 9;due 1;", 2, 1);
        told("times 1;times 9;times 5;", 3, 5);
        told("bell 0;bell 999;", 4, 999);
        told("shut 999;shut 0;", 5, 0);
        told("bow 9;bow 0;", 6, 0);
        told("lapse 5;due 3;lapse 4;", 7, 4);
        Check.same("the last worth", 7, good("worth 5;worth 6;bow 1;worth 7;", 4).worth(0, 1, 0));
        Check.same("the last must", 0, good("must 1=1;must 1=2;", 2).must(0, 1, 0) ? 1 : 0);
        Check.same("the last must of three", 1, good("must 1=1;must 1=2;must 2=2;", 3).must(0, 1, 0) ? 1 : 0);
    }

    private static void without() {
        Doc.says("without: no due, no times, no bell, shut 999, bow 0, no lapse, worth 1, must never.");
        int[] due = {2, 0, -1, -1, -1, 999, 0, -1};
        BowingRow x = good("", 0);
        for (int what = 0; what < 8; what++) {
            Check.same("told(" + what + ") without", due[what], x.told(what));
        }
        Check.same("worth without", 1, x.worth(0, 1, 0));
        Check.same("must without", 0, x.must(0, 1, 0) ? 1 : 0);
        // a later LAW has nothing of the one ahead of it
        Check.law(x, "due 1;times 1;bell 1;shut 1;bow 1;lapse 1;worth 5;must 1=1;");
        Check.law(x, "");
        for (int what = 0; what < 8; what++) {
            Check.same("told(" + what + ") without any more", due[what], x.told(what));
        }
        Check.same("worth without any more", 1, x.worth(0, 1, 0));
        Check.same("must without any more", 0, x.must(0, 1, 0) ? 1 : 0);
    }

    private static void claims() {
        Doc.says("C: D { \"or\" D }. D: B { \"and\" B }. B: \"not\" B, \"[\" C \"]\", or E R E;");
        holds("1=1 or 1=1 and 1=2", true);
        holds("1=2 and 1=2 or 1=1", true);
        holds("[1=1 or 1=1] and 1=2", false);
        // a not takes one B, no more
        holds("not 1=2 and 1=2", false);
        holds("not 1=1 or 1=1", true);
        holds("not [1=2 and 1=2]", true);
        holds("not not 1=1", true);
        holds("not [not [1=2]]", false);
        bad("must [1=1;", 1, 9);
        bad("must 1=1];", 1, 8);
        bad("must [];", 1, 6);
        bad("must [1];", 1, 7);
        bad("must not;", 1, 8);
        bad("must 1=1 or;", 1, 11);
        bad("must 1=1 and;", 1, 12);
        bad("must or 1=1;", 1, 5);
        bad("must 1=1 1=1;", 1, 9);
        bad("must 1=1 not 1=1;", 1, 9);
        bad("must (1=1);", 1, 7);
    }

    private static void comparisons() {
        Doc.says("R: &lt;, &gt; or =.");
        holds("4<5", true);
        holds("5<5", false);
        holds("6<5", false);
        holds("4>5", false);
        holds("5>5", false);
        holds("6>5", true);
        holds("4=5", false);
        holds("5=5", true);
        holds("6=5", false);
        // by 32 bits with a sign, not by the sign of a difference
        holds("8192*8192*32<0", true);
        holds("8192*8192*32<1", true);
        holds("1>8192*8192*32", true);
        holds("8192*8192*32-1>8192*8192*32", true);
        for (String one : new String[] {"1<2", "2>1", "1=1"}) {
            holds("not " + one, false);
            for (String other : new String[] {"1<2", "2>1", "1=1"}) {
                holds(one + " and " + other, true);
                holds(one + " and not " + other, false);
                holds("not " + one + " or " + other, true);
            }
        }
        bad("must 1<=2;", 1, 7);
        bad("must 1==2;", 1, 7);
        bad("must 1<>2;", 1, 7);
        bad("must 1<2<3;", 1, 8);
        bad("must 1;", 1, 6);
        bad("must =1;", 1, 5);
    }

    private static void sums() {
        Doc.says("E: T { + or - T }. T: U { * or / U }.");
        worth("2+3*4", 14);
        worth("2*3+4", 10);
        worth("(2+3)*4", 20);
        worth("20-5-5", 10);
        worth("20-(5-5)", 20);
        worth("80/8/2", 5);
        worth("80/(8/2)", 20);
        worth("80/8*2", 20);
        worth("7*3/2", 10);
        bad("worth 1+;", 1, 8);
        bad("worth +1;", 1, 6);
        bad("worth -1;", 1, 6);
        bad("worth 1*;", 1, 8);
        bad("worth 1//2;", 1, 8);
        bad("worth 1--1;", 1, 8);
        bad("worth 1%2;", 1, 7);
        bad("worth ();", 1, 7);
        bad("worth (1;", 1, 8);
        bad("worth 1);", 1, 7);
    }

    private static void operandNumbers() {
        Doc.says("U: N (0 to 9,999),");
        worth("0", 0);
        worth("9999-9900", 99);
        worth("9999/9999", 1);
        bad("worth 10000;", 2, 6);
        bad("worth 1+10000;", 2, 8);
        bad("worth 99999;", 2, 6);
        bad("must 10000=1;", 2, 5);
        bad("must 1=10000;", 2, 7);
        bad("worth 4294967297;", 2, 6);
        worth("00009999-9998", 1);
    }

    private static void operandWords() {
        Doc.says("\"age\", \"load\", \"errand\" (of who lets pass, or has the place),"
            + " \"older\", \"heavier\", \"longer\" (AGE, LOAD, ERRAND of the other one),");
        worth("age", 30);
        worth("load", 1);
        worth("errand", 5);
        worth("older", 60);
        worth("heavier", 9);
        worth("longer", 7);
        BowingRow x = Check.with("person 0 0 0 1 1;person 0 99 9 60 1;", "worth age*0+load*0+errand;");
        Check.same("least errand", 1, x.worth(0, 1, 0));
        Check.same("greatest errand", 60, x.worth(1, 0, 0));
        Check.law(x, "worth older;");
        Check.same("least age", 0, x.worth(1, 0, 0));
        Check.same("greatest age", 99, x.worth(0, 1, 0));
        bad("worth patience;", 1, 6);
        bad("worth minute;", 1, 6);
        bad("worth way;", 1, 6);
        bad("worth until;", 1, 6);
        bad("worth person;", 1, 6);
    }

    private static void hours() {
        Doc.says("\"hour\" (the MINUTE by 60, cut), or \"(\" E \")\".");
        int[] minutes = {0, 59, 60, 119, 120, 959, 960, 998};
        int[] due = {0, 0, 1, 1, 2, 15, 16, 16};
        for (int i = 0; i < minutes.length; i++) {
            String person = "person " + minutes[i] + " 0 0 1 9;";
            BowingRow x = Check.with(person + person + "way 0 4;", "worth hour+1;");
            Check.same("hour at minute " + minutes[i], due[i] + 1, x.book(0, 1));
        }
    }

    private static void wrapping() {
        Doc.says("VALUES are whole numbers of 32 bits that wrap;");
        // 8192 * 8192 * 32 is the least of all, and one less the greatest
        holds("8192*8192*32<0", true);
        holds("8192*8192*32-1>0", true);
        holds("8192*8192*32=0-8192*8192*32", true);
        holds("8192*8192*64=0", true);
        holds("8192*8192*32-1+1<0", true);
        holds("0-8192*8192*32-1>0", true);
        worth("8192*8192*64+5", 5);
        worth("8192*8192*64*9999+6", 6);
        // 9999 * 9999 * 9999 is 999700029999, which wraps to -1027349969
        worth("9999*9999*9999", 0);
        holds("9999*9999*9999/1000/1000=0-1027", true);
        holds("9999*9999*9999+1027*1000*1000+349*1000=0-969", true);
        holds("9999*9999*9999+1027*1000*1000+349*1000=0-968", false);
    }

    private static void dividing() {
        Doc.says("/ cuts, by 0 it is 0;");
        worth("7/2", 3);
        worth("7/8", 0);
        worth("8/8", 1);
        // it cuts towards 0, below 0, too
        worth("(0-7)/2+10", 7);
        worth("7/(0-2)+10", 7);
        worth("(0-7)/(0-2)+10", 13);
        worth("(0-1)/2+10", 10);
        worth("5/0", 0);
        worth("0/0+4", 4);
        worth("5/0+3", 3);
        worth("(0-5)/(1-1)+2", 2);
        worth("5/(age-30)+1", 1);
        // the least by -1 wraps
        holds("8192*8192*32/(0-1)=8192*8192*32", true);
        holds("(8192*8192*32-1)/(0-1)=0-8192*8192*32+1", true);
    }

    private static void bothSidesAreWorked() {
        Doc.says("or, and: both sides are worked.");
        holds("1=1 or 1/0=1", true);
        holds("1/0=1 or 1=1", true);
        holds("1=2 and 1/0=0", false);
        holds("1/0=0 and 1/0=0", true);
        holds("1=1 or 1=2", true);
        holds("1=2 or 1=2", false);
        holds("1=1 and 1=2", false);
        holds("1=2 and 1=1", false);
        bad("must 1=1 or 1/0;", 1, 15);
        bad("must 1=2 and 1=10000;", 2, 15);
    }

    private static void numbers() {
        Doc.says("Numbers: digits, as many as stand there;", "2 a number that is none such;");
        told("due 0000000000000099;", 2, 99);
        told("bow " + "0".repeat(490) + "9;", 6, 9);
        bad("bow 4294967296;", 2, 4);
        bad("bow " + "9".repeat(490) + ";", 2, 4);
        bad("bow 18446744073709551616;", 2, 4);
        bad("worth 00010000;", 2, 6);
        bad("due 1 0;", 1, 6);
    }

    private static void words() {
        Doc.says("WORDS: small letters, as many as stand there;");
        good("due1;times1;bell1;shut1;bow1;lapse1;worth1;", 7);
        holds("1=1or 1=2and 1=2", true);
        holds("not[1=2]and not(1)=2or 1=2", true);
        bad("dues 1;", 1, 0);
        bad("du 1;", 1, 0);
        bad("Due 1;", 1, 0);
        bad("worthage;", 1, 0);
        bad("mustnot 1=1;", 1, 0);
        bad("must notnot 1=1;", 1, 5);
        bad("must 1=1 orr 1=1;", 1, 9);
        bad("must 1=1 ornot 1=1;", 1, 9);
        bad("worth ageage;", 1, 6);
        bad("worth ag;", 1, 6);
        bad("worth Age;", 1, 6);
        bad("worth 1age;", 1, 7);
        bad("worth age1;", 1, 9);
        for (char letter = 'a'; letter <= 'z'; letter++) {
            bad("due" + letter + " 1;", 1, 0);
            bad("worth hour" + letter + ";", 1, 6);
        }
        bad("dueA 1;", 1, 3);
        bad("worth ageZ;", 1, 9);
        for (String word : new String[] {"due", "times", "bell", "shut", "bow", "lapse", "worth"}) {
            otherLetters("", word, " 1;");
        }
        otherLetters("", "must", " 1=1;");
        for (String word : new String[] {"age", "load", "errand", "older", "heavier", "longer", "hour"}) {
            otherLetters("worth ", word, ";");
        }
        otherLetters("must 1=1 ", "or", " 1=1;");
        otherLetters("must 1=1 ", "and", " 1=1;");
        otherLetters("must ", "not", " 1=1;");
    }

    /** With any one letter of it changed a WORD is none. */
    private static void otherLetters(String ahead, String word, String behind) {
        good(ahead + word + behind, 1);
        for (int at = 0; at < word.length(); at++) {
            StringBuilder other = new StringBuilder(word);
            other.setCharAt(at, 'q');
            bad(ahead + other + behind, 1, ahead.length());
        }
    }

    private static void blanks() {
        Doc.says("blanks (32) may stand ahead of all these, and at the end.");
        good("   due   1   ;   worth   (   1   +   age   )   ;   ", 2);
        good(" must not [ 1 < 2 ] and ( 3 ) > 2 or age = 1 ; ", 1);
        bad("du e 1;", 1, 0);
        bad("worth 1\t+1;", 1, 7);
        bad("worth 1\n;", 1, 7);
        bad("\u0000", 1, 0);
        bad("worth\u00a01;", 1, 5);
    }

    private static void endsTooEarly() {
        Doc.says("(at the length, if the text ends too early);");
        String[] ends = {"due", "due ", "due 1", "due 1  ", "worth", "worth 1", "worth 1+", "worth (", "worth (1",
            "worth (1)", "must", "must 1", "must 1=", "must 1=1", "must 1=1 or", "must 1=1 and ", "must not", "must [",
            "must [1=1", "must [1=1]", "bow 1;due"};
        for (String text : ends) {
            bad(text, 1, text.length());
        }
    }

    private static void whatCannotStand() {
        Doc.says("1 what can't stand there");
        bad(";", 1, 0);
        bad("bow 1;;", 1, 6);
        bad("5;", 1, 0);
        bad("person 0 0 0 1 1;", 1, 0);
        bad("way 0 0;", 1, 0);
        bad("knows 0 1;", 1, 0);
        bad("until 0 1;", 1, 0);
        bad("age;", 1, 0);
        bad("not 1=1;", 1, 0);
        bad("or;", 1, 0);
        bad("due age;", 1, 4);
        bad("due (1);", 1, 4);
        bad("due 1 2;", 1, 6);
        bad("due 1+1;", 1, 5);
        bad("worth 1=1;", 1, 7);
        bad("worth not 1;", 1, 6);
        bad("worth [1];", 1, 6);
        bad("worth (1];", 1, 8);
        bad("must [1=1);", 1, 9);
        bad("worth 1 and 1;", 1, 8);
        bad("worth due;", 1, 6);
        bad("worth \u00ff;", 1, 6);
        bad("worth 1\u00ab1;", 1, 7);
        bad("\u00ff", 1, 0);
    }

    private static void openSigns() {
        Doc.says("or a 7th of ( [ and not that is open at one time");
        worth("(((((5)))))", 5);
        worth("((((((5))))))", 5);
        bad("worth (((((((5)))))));", 3, 12);
        bad("worth ((((((1+(5)))))));", 3, 14);
        bad("worth ((((((  (", 3, 14);
        // one that is closed is not open any more
        worth("((((((5))))))+((((((6))))))", 11);
        worth("(((((5))+(((6))))))", 11);
        holds("((((((1))))))=((((((1))))))", true);
        bad("must ((((((1))))))=(((((((1)))))));", 3, 25);
        // nor from one RULE to the next
        good("worth ((((((1))))));worth ((((((1))))));", 2);
    }

    private static void openBrackets() {
        Doc.says("or a 7th of ( [ and not that is open at one time");
        holds("[[[[[[1=1]]]]]]", true);
        bad("must [[[[[[[1=1]]]]]]];", 3, 11);
        holds("[[[[[[1=1]]]]]] and [[[[[[1=1]]]]]]", true);
        bad("must [[[[[[1=1 and [1=1]]]]]]];", 3, 19);
        holds("[[[[[1=1] and [1=1]]]]]", true);
    }

    private static void openNots() {
        Doc.says("(a not till its B ends);");
        holds("not not not not not 1=1", false);
        holds("not not not not not not 1=1", true);
        bad("must not not not not not not not 1=1;", 3, 29);
        // its B ends ahead of and, or, and the end of the RULE
        holds("not not not not not not 1=1 and not not not not not not 1=1", true);
        holds("not not not not not not 1=1 or not not not not not not 1=1", true);
        good("must not not not not not not 1=1;must not not not not not not 1=1;", 2);
        // a not is open as long as both its E are
        bad("must not not not not not not (1)=1;", 3, 29);
        bad("must not not not not not not 1=(1);", 3, 31);
        holds("not not not not not (1)=(1)", false);
    }

    private static void openOnesTogether() {
        Doc.says("or a 7th of ( [ and not that is open at one time (a not till its B ends);");
        holds("not [not [not [1=1]]]", false);
        bad("must not [not [not [(1)=1]]];", 3, 20);
        bad("must not [not [not [1=(1)]]];", 3, 22);
        bad("must not [not [not [[1=1]]]];", 3, 20);
        bad("must not [not [not [not 1=1]]];", 3, 20);
        holds("not [not [not [1=2] and 1=1]] and ((((((1))))))=1", true);
        holds("[[[not not (1)=(1)]]]", true);
        bad("must [[[not not ((1))=1]]];", 3, 17);
        holds("[[[not not 1=1 and ((1))=((1)) and (((1)))=1]]]", true);
        bad("must [[[not not 1=1 and ((((1))))=1]]];", 3, 27);
        // as much as can wait for what stands behind it
        holds("1=2 or 1=1 and [1=2 or 1=1 and [1=2 or 1=1 and [15=1+2*(1+2*(1+2*(1)))]]]", true);
        holds("1=2 or 1=1 and [1=2 or 1=1 and [1=2 or 1=1 and [14=1+2*(1+2*(1+2*(1)))]]]", false);
        holds("1=2 or 1=1 and 127=1+2*(1+2*(1+2*(1+2*(1+2*(1+2*(1))))))", true);
        holds("1=2 or 1=1 and [1=2 or 1=1 and [1=2 or 1=1 and [1=2 or 1=1 and [1=2 or 1=1 and [1=2 or 1=1 and [1+1*2=3]]]]]]",
            true);
    }

    private static void theFirstFromTheLeft() {
        Doc.says("FAULTS, the first from the left, at its first byte:");
        bad("due 0;due ?", 2, 4);
        bad("due ?;due 0;", 1, 4);
        bad("worth 10000+?;", 2, 6);
        bad("worth ?+10000;", 1, 6);
        bad("worth (((((((10000;", 3, 12);
        bad("worth ((((((10000(;", 2, 12);
        bad("bow 10;" + "bow 1;".repeat(10), 2, 4);
        bad("bow 1;".repeat(9) + "bow 10;bow 1;", 2, 58);
        bad("worth 00012345;", 2, 6);
    }

    private static void theLeastOfOne() {
        Doc.says("of one the least.");
        bad("bow 1;".repeat(10) + "?", 1, 60);
        bad("bow 1;".repeat(10) + ";", 1, 60);
        bad("bow 1;".repeat(10) + "bows 1;", 1, 60);
        bad("bow 1;".repeat(10) + "person", 1, 60);
        bad("bow 1;".repeat(10) + "9", 1, 60);
        // a seventh where none can stand
        bad("worth ((((((1(", 1, 13);
        bad("worth ((((((1+[", 1, 14);
        bad("worth ((((((not", 1, 12);
        bad("must [[[[[[1[", 1, 12);
        bad("must [[[[[[1=not", 1, 13);
        bad("must not not not not not not 1=1 not", 1, 33);
        bad("must [[[[[[?", 1, 11);
    }
}
