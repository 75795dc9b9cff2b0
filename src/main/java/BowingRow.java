import java.util.Arrays;
import java.util.NoSuchElementException;

/**
 * A row at a counter, told as a text, under a law of courtesy, told as another text. The words in
 * capitals are those of the document.
 */
public final class BowingRow {
    public static final int NONE = -1;

    private static final int MOST_BYTES = 500;
    private static final int BYTES_FED = 20;
    private static final int MOST_CLAUSES = 40;
    private static final int MOST_PERSONS = 8;
    private static final int MOST_RULES = 10;
    private static final int MOST_OPEN = 6;
    private static final int MOST_IMAGES = 3;
    private static final int MOST_NUMBER = 9999;
    private static final int MOST_UNTIL = 99;
    private static final int MOST_WORTH = 99;
    private static final int WAYS = 5;
    private static final int MOST_WITH_WAY_ROWS = 5;
    private static final int PLAN_BITS = 10;
    private static final int HOURS = 17;
    private static final int MINUTES_AN_HOUR = 60;
    private static final int NEVER = 9999;
    private static final int LAST_SHUT = 999;

    private static final int CANNOT_STAND = 1;
    private static final int NO_SUCH_NUMBER = 2;
    private static final int TOO_MANY = 3;
    private static final int FAULT_LESS = 10;

    // what is known of a PERSON, by the numbers that person(..) asks with
    private static final int FACTS = 8;
    private static final int MINUTE = 0;
    private static final int AGE = 1;
    private static final int LOAD = 2;
    private static final int ERRAND = 3;
    private static final int PATIENCE = 4;
    private static final int WAY = 5;
    private static final int UNTIL = 6;
    private static final int KNOWS = 7;
    private static final int TOLD_FACTS = 5;
    private static final int[] LEAST_FACT = {0, 0, 0, 1, 1};
    private static final int[] MOST_FACT = {999, 99, 9, 60, 999};
    private static final int UNTIL_WITHOUT = 3;

    // the kinds of RULES, by the numbers that told(..) asks with; worth and must stand behind them
    private static final int RULE_KINDS = 10;
    private static final int DUE = 2;
    private static final int TIMES = 3;
    private static final int BELL = 4;
    private static final int SHUT = 5;
    private static final int BOW = 6;
    private static final int LAPSE = 7;
    private static final int WORTH = 8;
    private static final int MUST = 9;

    // a formula's steps: numbers stand for themselves; -1 to -3 are facts 1 to 3 of who lets pass,
    // -4 to -6 the same facts of the other one
    private static final int OTHERS_STEPS = -3;
    private static final int STEP_HOUR = -7;
    private static final int STEP_NOT = -8;
    private static final int STEP_PLUS = -9;
    private static final int STEP_MINUS = -10;
    private static final int STEP_MULTIPLY = -11;
    private static final int STEP_DIVIDE = -12;
    private static final int STEP_BELOW = -13;
    private static final int STEP_ABOVE = -14;
    private static final int STEP_EQUAL = -15;
    private static final int STEP_AND = -16;
    private static final int STEP_OR = -17;

    private final byte[] tape = new byte[MOST_BYTES];
    private int tapeSize;
    private final Tokens tokens = new Tokens();
    private int faultPlace = NONE;
    private People people = new People();
    private People sparePeople = new People();
    private Law law = new Law();
    private Law spareLaw = new Law();
    private final InForce inForce = new InForce(law, people);
    private final InForce partly = new InForce(law, people);
    private final Day today = new Day(people, inForce);
    private final Day trial = new Day(people, inForce);
    private final WayRows wayRows = new WayRows();
    private final Strikes strikes = new Strikes();
    private final int[] servedRow = new int[MOST_PERSONS];
    private int servedSize;
    private final Image[] images = {new Image(), new Image(), new Image()};
    private int imageCount;

    public BowingRow() {
    }

    public int feed(int a, int b, int c, int d, int e) {
        if (tapeSize + BYTES_FED > MOST_BYTES) {
            return NONE;
        }
        putOnTape(a);
        putOnTape(b);
        putOnTape(c);
        putOnTape(d);
        putOnTape(e);
        return tapeSize;
    }

    public int row(int n) throws IllegalArgumentException {
        takeText(n);
        boolean good = sparePeople.readClauses(tokens);
        faultPlace = tokens.faultPlace;
        if (!good) {
            return tokens.fault - FAULT_LESS;
        }
        People old = people;
        people = sparePeople;
        sparePeople = old;
        servedSize = 0;
        imageCount = 0;
        textChanged();
        return people.count;
    }

    public int law(int n) throws IllegalArgumentException {
        takeText(n);
        boolean good = spareLaw.readRules(tokens);
        faultPlace = tokens.faultPlace;
        if (!good) {
            return tokens.fault - FAULT_LESS;
        }
        Law old = law;
        law = spareLaw;
        spareLaw = old;
        textChanged();
        return law.count;
    }

    public int fault() {
        return faultPlace;
    }

    public int told(int what) throws IllegalArgumentException {
        checkWhat(what, LAPSE);
        if (what == 0) {
            return people.count;
        }
        return what == 1 ? law.count : inForce.numbers[what];
    }

    public int person(int person, int what) throws NoSuchElementException, IllegalArgumentException {
        checkPerson(person);
        checkWhat(what, KNOWS);
        return people.fact(person, what);
    }

    public int way(int person, int way) throws NoSuchElementException, IllegalArgumentException {
        checkPerson(person);
        checkWhat(way, WAYS - 1);
        int old = people.fact(person, WAY);
        people.setFact(person, WAY, way);
        waysChanged();
        return old;
    }

    public int until(int person, int n) throws NoSuchElementException, IllegalArgumentException {
        checkPerson(person);
        checkWhat(n, MOST_UNTIL);
        int old = people.fact(person, UNTIL);
        people.setFact(person, UNTIL, n);
        untilsChanged();
        return old;
    }

    public boolean must(int person, int other, int hour) throws NoSuchElementException, IllegalArgumentException {
        checkPair(person, other, hour);
        return inForce.mustOffer(person, other, hour);
    }

    public int worth(int person, int other, int hour) throws NoSuchElementException, IllegalArgumentException {
        checkPair(person, other, hour);
        return inForce.passWorth(person, other, hour);
    }

    public int day(int what) throws IllegalArgumentException {
        checkWhat(what, 6);
        Day day = dayAsItIs();
        switch (what) {
            case 0:
                return day.callCount;
            case 1:
                return Integer.bitCount(day.served);
            case 2:
                return day.allOffers();
            case 3:
                return day.passBook.size;
            case 4:
                return day.endless ? 1 : 0;
            case 5:
                return day.lastEnd();
            default:
                return day.unaskedCalls();
        }
    }

    public int call(int k, int what) throws IndexOutOfBoundsException, IllegalArgumentException {
        Call call = callOf(dayAsItIs(), k);
        checkWhat(what, 4);
        switch (what) {
            case 0:
                return call.goer;
            case 1:
                return call.minute;
            case 2:
                return call.offers;
            case 3:
                return call.there;
            default:
                return call.end;
        }
    }

    public int holder(int k, int i) throws IndexOutOfBoundsException {
        Call call = callOf(dayAsItIs(), k);
        if (call.unasked || i < 0 || i > call.offers || call.size < 1) {
            return NONE;
        }
        return call.row[i % call.size];
    }

    public int ends(int person) throws NoSuchElementException {
        checkPerson(person);
        return dayAsItIs().endOf[person];
    }

    public int balance(int person) throws NoSuchElementException {
        checkPerson(person);
        return dayAsItIs().passBook.balances[person];
    }

    public int book(int person, int other) throws NoSuchElementException {
        checkPerson(person);
        checkPerson(other);
        return dayAsItIs().passBook.given(person, other);
    }

    public int owed(int person, int other) throws NoSuchElementException {
        checkPerson(person);
        checkPerson(other);
        return dayAsItIs().passBook.debt(other, person);
    }

    public int tell(int person) throws NoSuchElementException {
        checkPerson(person);
        if (servedSize >= MOST_PERSONS) {
            return -1;
        }
        servedRow[servedSize] = person;
        servedSize++;
        return servedSize;
    }

    public int forget() {
        int old = servedSize;
        servedSize = 0;
        return old;
    }

    public int judge() {
        Day day = dayAsItIs();
        for (int i = 0; i < servedSize; i++) {
            if (i >= day.callCount || day.calls[i].goer != servedRow[i]) {
                return i;
            }
        }
        return NONE;
    }

    public int again(int k, int person, int way) throws NoSuchElementException, IllegalArgumentException {
        checkPerson(person);
        checkWhat(way, WAYS - 1);
        if (k < 0) {
            throw new IllegalArgumentException("no such call");
        }
        return endTurning(k, person, way);
    }

    public int plan(int person, int bits) throws NoSuchElementException, IllegalArgumentException {
        checkPerson(person);
        checkWhat(bits, (1 << PLAN_BITS) - 1);
        return endPlanning(person, bits);
    }

    public int best(int person, int what) throws NoSuchElementException, IllegalArgumentException {
        checkPerson(person);
        checkWhat(what, 1);
        int bestBits = 0;
        int bestEnd = NONE;
        // at its first 0 the PERSON GOES and is SERVED: only how many 1s stand below it tells plans apart
        for (int ones = 0; ones <= PLAN_BITS; ones++) {
            int bits = (1 << ones) - 1;
            int end = endPlanning(person, bits);
            if (late(end) < late(bestEnd)) {
                bestBits = bits;
                bestEnd = end;
            }
        }
        return what == 0 ? bestBits : bestEnd;
    }

    public int gain(int person, int way) throws NoSuchElementException, IllegalArgumentException {
        checkPerson(person);
        checkWhat(way, WAYS - 1);
        return late(dayAsItIs().endOf[person]) - late(endTurning(0, person, way));
    }

    public int rest(int what) throws IllegalArgumentException, IllegalStateException {
        checkWhat(what, 1);
        checkFewEnough();
        wayRows.work(people, inForce, trial);
        return what == 0 ? wayRows.restCount : wayRows.firstRest;
    }

    public int polite(int what) throws IllegalArgumentException, IllegalStateException {
        checkWhat(what, 1);
        checkFewEnough();
        wayRows.work(people, inForce, trial);
        return what == 0 ? wayRows.politeRow : wayRows.politeSum;
    }

    public int struck(int what) throws IllegalArgumentException {
        checkWhat(what, 1);
        strikes.work(law, people, partly, trial);
        if (strikes.bits == NONE) {
            return NONE;
        }
        return what == 0 ? strikes.bits : Integer.bitCount(strikes.bits);
    }

    public int hopeless() {
        strikes.work(law, people, partly, trial);
        return strikes.neverServed;
    }

    public int image() {
        if (imageCount >= MOST_IMAGES) {
            return -1;
        }
        images[imageCount].take(people, servedRow, servedSize);
        imageCount++;
        return imageCount;
    }

    public int restore() {
        if (imageCount < 1) {
            return -1;
        }
        imageCount--;
        servedSize = images[imageCount].putBack(people, servedRow);
        untilsChanged();
        return imageCount;
    }

    public int count(int what) {
        switch (what) {
            case 0:
                return servedSize;
            case 1:
                return imageCount;
            case 2:
                return tapeSize;
            default:
                return NONE;
        }
    }

    private void checkPerson(int person) {
        if (person < 0 || person >= people.count) {
            throw new NoSuchElementException("no such person");
        }
    }

    private void checkWhat(int what, int most) {
        if (what < 0 || what > most) {
            throw new IllegalArgumentException("no such number");
        }
    }

    private void checkPair(int person, int other, int hour) {
        checkPerson(person);
        checkPerson(other);
        checkWhat(hour, HOURS - 1);
        if (person == other) {
            throw new IllegalArgumentException("one and the same person");
        }
    }

    private void checkFewEnough() {
        if (people.count > MOST_WITH_WAY_ROWS) {
            throw new IllegalStateException("too many persons");
        }
    }

    private void putOnTape(int number) {
        for (int shift = 24; shift >= 0 && tapeSize < MOST_BYTES; shift -= 8) {
            tape[tapeSize] = (byte) (number >>> shift);
            tapeSize++;
        }
    }

    private void takeText(int n) {
        checkWhat(n, tapeSize);
        tokens.cut(tape, n);
        tapeSize = 0;
    }

    private void textChanged() {
        inForce.forgetAnswers();
        partly.forgetAnswers();
        inForce.take(law, people, 0);
        untilsChanged();
    }

    private void untilsChanged() {
        wayRows.stale = true;
        waysChanged();
    }

    // rows of WAYS are worked for all WAYS at once, so those that the PERSONS have don't matter there
    private void waysChanged() {
        today.stale = true;
        strikes.stale = true;
    }

    private Day dayAsItIs() {
        if (today.stale) {
            today.prepare(people, inForce);
            today.goThrough();
            today.stale = false;
        }
        return today;
    }

    private static Call callOf(Day day, int k) {
        if (k < 0 || k >= day.callCount) {
            throw new IndexOutOfBoundsException("no such call");
        }
        return day.calls[k];
    }

    private int endTurning(int k, int person, int way) {
        trial.prepare(people, inForce);
        trial.turner = person;
        trial.turnCall = k;
        trial.turnWay = way;
        trial.goThrough();
        return trial.endOf[person];
    }

    private int endPlanning(int person, int bits) {
        trial.prepare(people, inForce);
        trial.planner = person;
        trial.planBits = bits;
        trial.goThrough();
        return trial.endOf[person];
    }

    private static int late(int end) {
        return end == NONE ? NEVER : end;
    }

    /** The WORDS of both texts. */
    private enum Word {
        UNKNOWN("", 0, 0, 0),
        PERSON("person", 0, 0, 0),
        KNOWS("knows", 0, 0, 0),
        WAY("way", 0, 0, WAYS - 1),
        UNTIL("until", 0, 0, MOST_UNTIL),
        DUE("due", BowingRow.DUE, 1, 99),
        TIMES("times", BowingRow.TIMES, 1, 9),
        BELL("bell", BowingRow.BELL, 0, 999),
        SHUT("shut", BowingRow.SHUT, 0, 999),
        BOW("bow", BowingRow.BOW, 0, 9),
        LAPSE("lapse", BowingRow.LAPSE, 1, 999),
        WORTH("worth", BowingRow.WORTH, 0, 0),
        MUST("must", BowingRow.MUST, 0, 0),
        OR("or", 0, 0, 0),
        AND("and", 0, 0, 0),
        NOT("not", 0, 0, 0),
        AGE("age", -BowingRow.AGE, 0, 0),
        LOAD("load", -BowingRow.LOAD, 0, 0),
        ERRAND("errand", -BowingRow.ERRAND, 0, 0),
        OLDER("older", OTHERS_STEPS - BowingRow.AGE, 0, 0),
        HEAVIER("heavier", OTHERS_STEPS - BowingRow.LOAD, 0, 0),
        LONGER("longer", OTHERS_STEPS - BowingRow.ERRAND, 0, 0),
        HOUR("hour", STEP_HOUR, 0, 0);

        private static final Word[] ALL = values();

        /** How it is written. */
        final String text;
        /** Above 0 the kind of RULE that it begins, below 0 the step of a formula that it is. */
        final int meaning;
        /** Between these lies the number that ends its CLAUSE or RULE, if one does. */
        final int least;
        final int most;

        Word(String text, int meaning, int least, int most) {
            this.text = text;
            this.meaning = meaning;
            this.least = least;
            this.most = most;
        }
    }

    /** A text cut up into numbers, WORDS and signs, and how far it has been read. */
    private static final class Tokens {
        private static final int END = 0;
        private static final int NUMBER = 1;
        private static final int WORD = 2;
        private static final int SIGN = 3;

        private final int[] kinds = new int[MOST_BYTES + 1];
        private final int[] values = new int[MOST_BYTES + 1];
        private final int[] places = new int[MOST_BYTES + 1];
        private final Word[] words = new Word[MOST_BYTES + 1];
        private int size;
        private int at;
        int fault;
        int faultPlace;

        void cut(byte[] text, int length) {
            size = 0;
            at = 0;
            fault = 0;
            faultPlace = NONE;
            int place = 0;
            for (int i = 0; i < length && place < length; i++) {
                place = text[place] == ' ' ? place + 1 : cutOne(text, length, place);
            }
            kinds[size] = END;
            places[size] = length;
        }

        /** Where the bytes behind this one go on. */
        private int cutOne(byte[] text, int length, int place) {
            int end = place;
            places[size] = place;
            if (isDigit(text[place])) {
                int value = 0;
                for (; end < length && isDigit(text[end]); end++) {
                    // a number above all that can stand in a text need not grow on
                    value = value > MOST_NUMBER ? value : value * 10 + text[end] - '0';
                }
                kinds[size] = NUMBER;
                values[size] = value;
            } else if (isLetter(text[place])) {
                while (end < length && isLetter(text[end])) {
                    end++;
                }
                kinds[size] = WORD;
                words[size] = wordFor(text, place, end);
            } else {
                kinds[size] = SIGN;
                values[size] = text[place];
                end++;
            }
            size++;
            return end;
        }

        private static boolean isDigit(byte sign) {
            return sign >= '0' && sign <= '9';
        }

        private static boolean isLetter(byte sign) {
            return sign >= 'a' && sign <= 'z';
        }

        private static Word wordFor(byte[] text, int from, int to) {
            for (int i = 0; i < Word.ALL.length; i++) {
                String written = Word.ALL[i].text;
                int same = 0;
                if (written.length() == to - from) {
                    while (same < written.length() && written.charAt(same) == text[from + same]) {
                        same++;
                    }
                }
                if (same == to - from) {
                    return Word.ALL[i];
                }
            }
            return Word.UNKNOWN;
        }

        boolean atEnd() {
            return kinds[at] == END;
        }

        /** The WORD here; UNKNOWN, if what stands here is none. */
        Word here() {
            return kinds[at] == WORD ? words[at] : Word.UNKNOWN;
        }

        /** The sign here; 0, if what stands here is none. */
        int signHere() {
            return kinds[at] == SIGN ? values[at] : 0;
        }

        boolean isNumber(int value) {
            return kinds[at] == NUMBER && values[at] == value;
        }

        void goOn() {
            if (at < size) {
                at++;
            }
        }

        boolean takeSign(char sign) {
            boolean stands = kinds[at] == SIGN && values[at] == sign;
            if (stands) {
                at++;
            } else {
                fault = CANNOT_STAND;
                faultPlace = places[at];
            }
            return stands;
        }

        /** The number here; NONE with its FAULT, if it is none such. */
        int takeNumber(int least, int most) {
            boolean stands = kinds[at] == NUMBER;
            int value = values[at];
            if (stands && value >= least && value <= most) {
                at++;
                return value;
            }
            fault = stands ? NO_SUCH_NUMBER : CANNOT_STAND;
            faultPlace = places[at];
            return NONE;
        }

        /** Always false, so that a reader can answer with it. */
        boolean fail(int fault) {
            this.fault = fault;
            faultPlace = places[at];
            return false;
        }
    }

    /** The ROW as told. */
    private static final class People {
        private final int[] facts = new int[MOST_PERSONS * FACTS];
        private final int[] byMinute = new int[MOST_PERSONS];
        int count;

        int fact(int person, int what) {
            return facts[person * FACTS + what];
        }

        void setFact(int person, int what, int value) {
            facts[person * FACTS + what] = value;
        }

        boolean readClauses(Tokens tokens) {
            count = 0;
            for (int clauses = 0; clauses <= MOST_CLAUSES && !tokens.atEnd(); clauses++) {
                if (!readClause(tokens, clauses)) {
                    return false;
                }
            }
            lineUp();
            return true;
        }

        private boolean readClause(Tokens tokens, int clauses) {
            Word word = tokens.here();
            boolean known = word == Word.PERSON || word == Word.KNOWS || word == Word.WAY || word == Word.UNTIL;
            if (!known) {
                return tokens.fail(CANNOT_STAND);
            }
            if (clauses >= MOST_CLAUSES || word == Word.PERSON && count >= MOST_PERSONS) {
                return tokens.fail(TOO_MANY);
            }
            tokens.goOn();
            boolean good;
            if (word == Word.PERSON) {
                good = readPerson(tokens);
            } else if (word == Word.KNOWS) {
                good = readKnows(tokens);
            } else {
                good = readHabit(tokens, word);
            }
            return good && tokens.takeSign(';');
        }

        private boolean readPerson(Tokens tokens) {
            for (int what = 0; what < TOLD_FACTS; what++) {
                int value = tokens.takeNumber(LEAST_FACT[what], MOST_FACT[what]);
                if (value == NONE) {
                    return false;
                }
                setFact(count, what, value);
            }
            setFact(count, BowingRow.WAY, 0);
            setFact(count, BowingRow.UNTIL, UNTIL_WITHOUT);
            setFact(count, BowingRow.KNOWS, 0);
            count++;
            return true;
        }

        private boolean readKnows(Tokens tokens) {
            int one = tokens.takeNumber(0, count - 1);
            if (one == NONE) {
                return false;
            }
            if (tokens.isNumber(one)) {
                return tokens.fail(NO_SUCH_NUMBER);
            }
            int other = tokens.takeNumber(0, count - 1);
            if (other == NONE) {
                return false;
            }
            setFact(one, BowingRow.KNOWS, fact(one, BowingRow.KNOWS) | 1 << other);
            setFact(other, BowingRow.KNOWS, fact(other, BowingRow.KNOWS) | 1 << one);
            return true;
        }

        private boolean readHabit(Tokens tokens, Word word) {
            int person = tokens.takeNumber(0, count - 1);
            if (person == NONE) {
                return false;
            }
            int value = tokens.takeNumber(word.least, word.most);
            if (value == NONE) {
                return false;
            }
            setFact(person, word == Word.WAY ? BowingRow.WAY : BowingRow.UNTIL, value);
            return true;
        }

        /** By MINUTE, then by number, as they stand in every CALL. */
        private void lineUp() {
            for (int person = 0; person < count; person++) {
                int at = person;
                while (at > 0 && fact(byMinute[at - 1], MINUTE) > fact(person, MINUTE)) {
                    byMinute[at] = byMinute[at - 1];
                    at--;
                }
                byMinute[at] = person;
            }
        }

        /** The MINUTE at which the next one comes; NONE: nobody does any more. */
        int nextMinute(int minute) {
            for (int i = 0; i < count; i++) {
                int comes = fact(byMinute[i], MINUTE);
                if (comes > minute) {
                    return comes;
                }
            }
            return NONE;
        }
    }

    /** The LAW as told; worth and must are kept as steps, operands ahead of what joins them. */
    private static final class Law {
        // six open signs and at most five operands that wait in each of them and outside
        private static final int MOST_WAITING = 64;

        private final int[] kinds = new int[MOST_RULES];
        private final int[] numbers = new int[MOST_RULES];
        private final int[] from = new int[MOST_RULES];
        private final int[] to = new int[MOST_RULES];
        private final int[] steps = new int[MOST_BYTES];
        private final int[] waiting = new int[MOST_WAITING];
        private int stepCount;
        int count;

        boolean readRules(Tokens tokens) {
            count = 0;
            stepCount = 0;
            for (int rules = 0; rules <= MOST_RULES && !tokens.atEnd(); rules++) {
                if (!readRule(tokens)) {
                    return false;
                }
            }
            return true;
        }

        private boolean readRule(Tokens tokens) {
            Word word = tokens.here();
            if (word.meaning <= 0) {
                return tokens.fail(CANNOT_STAND);
            }
            if (count >= MOST_RULES) {
                return tokens.fail(TOO_MANY);
            }
            tokens.goOn();
            kinds[count] = word.meaning;
            from[count] = stepCount;
            boolean good;
            if (word == Word.MUST) {
                good = readJoined(tokens, Word.OR, 0);
            } else if (word == Word.WORTH) {
                good = readSum(tokens, '+', '-', 0);
            } else {
                numbers[count] = tokens.takeNumber(word.least, word.most);
                good = numbers[count] != NONE;
            }
            to[count] = stepCount;
            count++;
            return good && tokens.takeSign(';');
        }

        private void addStep(int step) {
            if (stepCount < steps.length) {
                steps[stepCount] = step;
                stepCount++;
            }
        }

        /** C, joined by or, and each D in it, joined by and. */
        private boolean readJoined(Tokens tokens, Word joint, int open) {
            boolean good = joint == Word.OR ? readJoined(tokens, Word.AND, open) : readClaim(tokens, open);
            for (int i = 0; i < MOST_BYTES && good && tokens.here() == joint; i++) {
                tokens.goOn();
                good = joint == Word.OR ? readJoined(tokens, Word.AND, open) : readClaim(tokens, open);
                addStep(joint == Word.OR ? STEP_OR : STEP_AND);
            }
            return good;
        }

        /** B. */
        private boolean readClaim(Tokens tokens, int open) {
            boolean not = tokens.here() == Word.NOT;
            boolean bracket = tokens.signHere() == '[';
            if ((not || bracket) && open >= MOST_OPEN) {
                return tokens.fail(TOO_MANY);
            }
            if (not) {
                tokens.goOn();
                boolean good = readClaim(tokens, open + 1);
                addStep(STEP_NOT);
                return good;
            }
            if (bracket) {
                tokens.goOn();
                return readJoined(tokens, Word.OR, open + 1) && tokens.takeSign(']');
            }
            if (!readSum(tokens, '+', '-', open)) {
                return false;
            }
            int sign = tokens.signHere();
            if (sign != '<' && sign != '>' && sign != '=') {
                return tokens.fail(CANNOT_STAND);
            }
            tokens.goOn();
            boolean good = readSum(tokens, '+', '-', open);
            addStep(stepFor(sign));
            return good;
        }

        /** E, joined by + and -, and each T in it, joined by * and /. */
        private boolean readSum(Tokens tokens, char one, char other, int open) {
            boolean good = one == '+' ? readSum(tokens, '*', '/', open) : readOperand(tokens, open);
            int sign = tokens.signHere();
            for (int i = 0; i < MOST_BYTES && good && (sign == one || sign == other); i++) {
                tokens.goOn();
                good = one == '+' ? readSum(tokens, '*', '/', open) : readOperand(tokens, open);
                addStep(stepFor(sign));
                sign = tokens.signHere();
            }
            return good;
        }

        /** U. */
        private boolean readOperand(Tokens tokens, int open) {
            if (tokens.signHere() == '(') {
                if (open >= MOST_OPEN) {
                    return tokens.fail(TOO_MANY);
                }
                tokens.goOn();
                return readSum(tokens, '+', '-', open + 1) && tokens.takeSign(')');
            }
            int step = tokens.here().meaning;
            if (step < 0) {
                tokens.goOn();
            } else {
                step = tokens.takeNumber(0, MOST_NUMBER);
                if (step == NONE) {
                    return false;
                }
            }
            addStep(step);
            return true;
        }

        private static int stepFor(int sign) {
            switch (sign) {
                case '+':
                    return STEP_PLUS;
                case '-':
                    return STEP_MINUS;
                case '*':
                    return STEP_MULTIPLY;
                case '/':
                    return STEP_DIVIDE;
                case '<':
                    return STEP_BELOW;
                case '>':
                    return STEP_ABOVE;
                default:
                    return STEP_EQUAL;
            }
        }

        /** What a worth or a must comes to: of a must 1, if it holds, else 0. */
        int valueOf(int rule, People people, int giver, int other, int hour) {
            int top = 0;
            for (int i = from[rule]; i < to[rule]; i++) {
                int step = steps[i];
                if (step >= STEP_HOUR) {
                    if (top >= waiting.length) {
                        return 0;
                    }
                    if (step >= 0) {
                        waiting[top] = step;
                    } else if (step == STEP_HOUR) {
                        waiting[top] = hour;
                    } else {
                        waiting[top] = step >= OTHERS_STEPS
                            ? people.fact(giver, -step) : people.fact(other, OTHERS_STEPS - step);
                    }
                    top++;
                } else if (step == STEP_NOT) {
                    if (top < 1) {
                        return 0;
                    }
                    waiting[top - 1] = 1 - waiting[top - 1];
                } else {
                    if (top < 2) {
                        return 0;
                    }
                    top--;
                    waiting[top - 1] = joined(step, waiting[top - 1], waiting[top]);
                }
            }
            return top > 0 ? waiting[0] : 0;
        }

        private static int joined(int step, int one, int other) {
            switch (step) {
                case STEP_PLUS:
                    return one + other;
                case STEP_MINUS:
                    return one - other;
                case STEP_MULTIPLY:
                    return one * other;
                case STEP_DIVIDE:
                    return other == 0 ? 0 : one / other;
                case STEP_BELOW:
                    return one < other ? 1 : 0;
                case STEP_ABOVE:
                    return one > other ? 1 : 0;
                case STEP_EQUAL:
                    return one == other ? 1 : 0;
                case STEP_AND:
                    return one & other;
                default:
                    return one | other;
            }
        }
    }

    /** What the LAW says to these PERSONS, with some of its RULES left out. */
    private static final class InForce {
        private static final int PAIRS_AND_HOURS = MOST_PERSONS * MOST_PERSONS * HOURS;

        /** By kinds; of worth and must which RULE it is. NONE: without. */
        final int[] numbers = new int[RULE_KINDS];
        private Law law;
        private People people;
        // a day is gone through thousands of times for one question: what a RULE said is kept, and 1 (0: not yet asked)
        private final byte[] mustSaid = new byte[PAIRS_AND_HOURS];
        private final byte[] worthSaid = new byte[PAIRS_AND_HOURS];
        private int mustAsked = NONE;
        private int worthAsked = NONE;

        InForce(Law law, People people) {
            this.law = law;
            this.people = people;
            setWithout();
        }

        private void setWithout() {
            Arrays.fill(numbers, NONE);
            numbers[SHUT] = LAST_SHUT;
            numbers[BOW] = 0;
        }

        /** Bit i of leftOut: RULE i is left out. */
        void take(Law law, People people, int leftOut) {
            this.law = law;
            this.people = people;
            setWithout();
            for (int rule = 0; rule < law.count; rule++) {
                int kind = law.kinds[rule];
                if ((leftOut >> rule & 1) == 0) {
                    numbers[kind] = kind == WORTH || kind == MUST ? rule : law.numbers[rule];
                }
            }
            if (numbers[MUST] != mustAsked) {
                Arrays.fill(mustSaid, (byte) 0);
                mustAsked = numbers[MUST];
            }
            if (numbers[WORTH] != worthAsked) {
                Arrays.fill(worthSaid, (byte) 0);
                worthAsked = numbers[WORTH];
            }
        }

        /** For when another text stands behind the same numbers of RULES. */
        void forgetAnswers() {
            Arrays.fill(mustSaid, (byte) 0);
            Arrays.fill(worthSaid, (byte) 0);
        }

        boolean mustOffer(int giver, int other, int hour) {
            if (numbers[MUST] == NONE) {
                return false;
            }
            int at = (giver * MOST_PERSONS + other) * HOURS + hour;
            if (mustSaid[at] == 0) {
                mustSaid[at] = (byte) (law.valueOf(numbers[MUST], people, giver, other, hour) + 1);
            }
            return mustSaid[at] != 1;
        }

        int passWorth(int giver, int other, int hour) {
            if (numbers[WORTH] == NONE) {
                return 1;
            }
            int at = (giver * MOST_PERSONS + other) * HOURS + hour;
            if (worthSaid[at] == 0) {
                int value = law.valueOf(numbers[WORTH], people, giver, other, hour);
                worthSaid[at] = (byte) (Math.max(0, Math.min(MOST_WORTH, value)) + 1);
            }
            return worthSaid[at] - 1;
        }
    }

    /** One CALL and what came of it. */
    private static final class Call {
        final int[] row = new int[MOST_PERSONS];
        int size;
        int there;
        int minute;
        int offers;
        int goer;
        int end;
        boolean unasked;

        /** Who stands there at this MINUTE. */
        void gather(People people, int minute, int served) {
            this.minute = minute;
            size = 0;
            there = 0;
            offers = 0;
            goer = NONE;
            end = NONE;
            unasked = false;
            for (int i = 0; i < people.count; i++) {
                int person = people.byMinute[i];
                int waits = minute - people.fact(person, MINUTE);
                if ((served >> person & 1) == 0 && waits >= 0 && waits <= people.fact(person, PATIENCE)) {
                    row[size] = person;
                    size++;
                    there |= 1 << person;
                }
            }
        }

        /** Who is due, of the greatest BALANCE, the first in the row; NONE: nobody. */
        int dueOne(int[] balances, int due) {
            int found = NONE;
            for (int place = 0; place < size; place++) {
                int balance = balances[row[place]];
                if (balance >= due && (found == NONE || balance > balances[found])) {
                    found = row[place];
                }
            }
            return found;
        }
    }

    /** The PASSES of a DAY. */
    private static final class PassBook {
        // who is let pass is SERVED before its giver: of two only one can give to the other
        private static final int MOST_PASSES = MOST_PERSONS * (MOST_PERSONS - 1) / 2;

        private final int[] givers = new int[MOST_PASSES];
        private final int[] takers = new int[MOST_PASSES];
        private final int[] worths = new int[MOST_PASSES];
        private final int[] minutes = new int[MOST_PASSES];
        private final int[] debts = new int[MOST_PERSONS * MOST_PERSONS];
        final int[] balances = new int[MOST_PERSONS];
        int size;

        void write(int giver, int taker, int worth, int minute) {
            if (size < MOST_PASSES) {
                givers[size] = giver;
                takers[size] = taker;
                worths[size] = worth;
                minutes[size] = minute;
                size++;
            }
        }

        void balanceAt(int minute, int lapse) {
            Arrays.fill(balances, 0);
            for (int i = 0; i < size; i++) {
                if (lapse == NONE || minute - minutes[i] <= lapse) {
                    balances[givers[i]] += worths[i];
                    balances[takers[i]] -= worths[i];
                }
            }
        }

        int given(int giver, int taker) {
            int sum = 0;
            for (int i = 0; i < size; i++) {
                if (givers[i] == giver && takers[i] == taker) {
                    sum += worths[i];
                }
            }
            return sum;
        }

        /** What one owes another one, when all is set off. */
        int debt(int one, int other) {
            for (int a = 0; a < MOST_PERSONS; a++) {
                for (int b = 0; b < MOST_PERSONS; b++) {
                    debts[a * MOST_PERSONS + b] = Math.max(0, given(b, a) - given(a, b));
                }
            }
            // each round that is set off ends a debt, and none begins
            for (int i = 0; i < debts.length; i++) {
                if (!setOffRound()) {
                    break;
                }
            }
            return debts[one * MOST_PERSONS + other];
        }

        private boolean setOffRound() {
            for (int a = 0; a < MOST_PERSONS; a++) {
                for (int b = a + 1; b < MOST_PERSONS; b++) {
                    for (int c = a + 1; c < MOST_PERSONS; c++) {
                        if (setOff(a * MOST_PERSONS + b, b * MOST_PERSONS + c, c * MOST_PERSONS + a)) {
                            return true;
                        }
                    }
                }
            }
            return false;
        }

        private boolean setOff(int first, int second, int third) {
            int least = Math.min(debts[first], Math.min(debts[second], debts[third]));
            debts[first] -= least;
            debts[second] -= least;
            debts[third] -= least;
            return least > 0;
        }
    }

    /** A DAY: how it is to go, and what came of it. */
    private static final class Day {
        private People people;
        private InForce inForce;
        final int[] ways = new int[MOST_PERSONS];
        int planner = NONE;
        int planBits;
        private int planTimes;
        int turner = NONE;
        int turnCall = NONE;
        int turnWay;
        final Call[] calls = new Call[MOST_PERSONS];
        int callCount;
        final int[] endOf = new int[MOST_PERSONS];
        final PassBook passBook = new PassBook();
        int served;
        boolean endless;
        private int free;
        boolean stale = true;

        Day(People people, InForce inForce) {
            this.people = people;
            this.inForce = inForce;
            for (int i = 0; i < MOST_PERSONS; i++) {
                calls[i] = new Call();
            }
        }

        /** All by their WAYS. */
        void prepare(People people, InForce inForce) {
            this.people = people;
            this.inForce = inForce;
            for (int person = 0; person < people.count; person++) {
                ways[person] = people.fact(person, WAY);
            }
            planner = NONE;
            turner = NONE;
            turnCall = NONE;
        }

        void goThrough() {
            callCount = 0;
            Arrays.fill(endOf, NONE);
            passBook.size = 0;
            served = 0;
            endless = false;
            free = 0;
            planTimes = 0;
            // a CALL serves one, or is the last
            for (int k = 0; k < MOST_PERSONS && !endless && openCall(calls[k]); k++) {
                Call call = calls[k];
                callCount++;
                if (turner != NONE && k == turnCall) {
                    ways[turner] = turnWay;
                }
                passBook.balanceAt(call.minute, inForce.numbers[LAPSE]);
                int due = inForce.numbers[DUE];
                call.goer = due == NONE ? NONE : call.dueOne(passBook.balances, due);
                call.unasked = call.goer != NONE;
                if (!call.unasked) {
                    handAlong(call);
                }
                endCall(call);
            }
            passBook.balanceAt(free, inForce.numbers[LAPSE]);
        }

        private boolean openCall(Call call) {
            int shut = inForce.numbers[SHUT];
            if (free >= shut) {
                return false;
            }
            call.gather(people, free, served);
            if (call.size == 0) {
                int next = people.nextMinute(free);
                if (next == NONE || next >= shut) {
                    return false;
                }
                call.gather(people, next, served);
            }
            return true;
        }

        private void handAlong(Call call) {
            int times = inForce.numbers[TIMES];
            int rounds = times == NONE ? 1 : times + 1;
            // only a planner's mind changes within a CALL: without one all rounds but the last are like the first
            int leap = times == NONE || planner != NONE ? 1 : times;
            for (int round = 0; round < rounds; round += leap) {
                for (int place = 0; place < call.size; place++) {
                    if (!offersPlace(call, place, round)) {
                        call.goer = call.row[place];
                        call.offers = round * call.size + place;
                        return;
                    }
                }
            }
            call.offers = call.size;
            endless = true;
        }

        /** In each round ahead of this one the holder OFFERED once. */
        private boolean offersPlace(Call call, int place, int round) {
            int times = inForce.numbers[TIMES];
            int bell = inForce.numbers[BELL];
            if (call.size == 1 || times != NONE && round >= times || bell != NONE && call.minute >= bell) {
                return false;
            }
            int holder = call.row[place];
            int next = call.row[place + 1 < call.size ? place + 1 : 0];
            if (inForce.mustOffer(holder, next, call.minute / MINUTES_AN_HOUR)) {
                return true;
            }
            return holder == planner ? offersByPlan() : offersByWay(holder, next);
        }

        private boolean offersByPlan() {
            boolean offers = planTimes < PLAN_BITS && (planBits >> planTimes & 1) == 1;
            planTimes++;
            return offers;
        }

        private boolean offersByWay(int holder, int next) {
            switch (ways[holder]) {
                case 1:
                    return (people.fact(holder, KNOWS) >> next & 1) == 1;
                case 2:
                    return passBook.balances[holder] < people.fact(holder, UNTIL);
                case 3:
                    return people.fact(next, AGE) > people.fact(holder, AGE);
                case 4:
                    return true;
                default:
                    return false;
            }
        }

        private void endCall(Call call) {
            if (call.goer == NONE) {
                free = call.minute;
                return;
            }
            call.end = call.minute + inForce.numbers[BOW] * call.offers + people.fact(call.goer, ERRAND);
            endOf[call.goer] = call.end;
            served |= 1 << call.goer;
            free = call.end;
            if (!call.unasked) {
                letPass(call);
            }
        }

        // the PLACE came to who goes through all ahead of it, so each of these OFFERED
        private void letPass(Call call) {
            int hour = call.minute / MINUTES_AN_HOUR;
            for (int place = 0; place < call.size && call.row[place] != call.goer; place++) {
                int giver = call.row[place];
                passBook.write(giver, call.goer, inForce.passWorth(giver, call.goer, hour), call.minute);
            }
        }

        int allOffers() {
            int sum = 0;
            for (int k = 0; k < callCount; k++) {
                sum += calls[k].offers;
            }
            return sum;
        }

        int unaskedCalls() {
            int sum = 0;
            for (int k = 0; k < callCount; k++) {
                sum += calls[k].unasked ? 1 : 0;
            }
            return sum;
        }

        int lastEnd() {
            int last = 0;
            for (int k = 0; k < callCount; k++) {
                last = Math.max(last, calls[k].end);
            }
            return last;
        }
    }

    /** All rows of WAYS, with when the ERRANDS end by each. */
    private static final class WayRows {
        // of each row in turn, PERSON by PERSON; made when first asked for, as few objects ever need it
        private int[] ends = new int[0];
        boolean stale = true;
        int restCount;
        int firstRest;
        int politeRow;
        int politeSum;

        void work(People people, InForce inForce, Day trial) {
            if (!stale) {
                return;
            }
            int persons = people.count;
            int rows = 1;
            for (int person = 0; person < persons && person < MOST_WITH_WAY_ROWS; person++) {
                rows *= WAYS;
            }
            if (ends.length < rows * persons) {
                ends = new int[rows * persons];
            }
            trial.prepare(people, inForce);
            politeRow = NONE;
            for (int row = 0; row < rows; row++) {
                setWays(trial.ways, row, persons);
                trial.goThrough();
                keepEnds(trial.endOf, row, persons);
            }
            findRests(rows, persons);
            stale = false;
        }

        private static void setWays(int[] ways, int row, int persons) {
            int digits = row;
            for (int person = persons - 1; person >= 0; person--) {
                ways[person] = digits % WAYS;
                digits /= WAYS;
            }
        }

        private void keepEnds(int[] endOf, int row, int persons) {
            int sum = 0;
            for (int person = 0; person < persons; person++) {
                int end = late(endOf[person]);
                ends[row * persons + person] = end;
                sum += end;
            }
            if (politeRow == NONE || sum < politeSum) {
                politeRow = row;
                politeSum = sum;
            }
        }

        private void findRests(int rows, int persons) {
            restCount = 0;
            firstRest = NONE;
            for (int row = 0; row < rows; row++) {
                if (isRest(row, persons)) {
                    restCount++;
                    firstRest = firstRest == NONE ? row : firstRest;
                }
            }
        }

        private boolean isRest(int row, int persons) {
            int digits = row;
            int step = 1;
            for (int person = persons - 1; person >= 0; person--) {
                int lowest = row - digits % WAYS * step;
                for (int way = 0; way < WAYS; way++) {
                    if (ends[(lowest + way * step) * persons + person] < ends[row * persons + person]) {
                        return false;
                    }
                }
                digits /= WAYS;
                step *= WAYS;
            }
            return true;
        }
    }

    /** What comes of leaving RULES out. */
    private static final class Strikes {
        boolean stale = true;
        /** The fewest, of these the least set; NONE: no set does. */
        int bits;
        int neverServed;

        void work(Law law, People people, InForce partly, Day trial) {
            if (!stale) {
                return;
            }
            int all = (1 << people.count) - 1;
            int sets = 1 << law.count;
            int servedOnce = 0;
            int fewest = MOST_RULES + 1;
            bits = NONE;
            for (int leftOut = 0; leftOut < sets; leftOut++) {
                int size = Integer.bitCount(leftOut);
                // where a set serves all, nobody is hopeless: only a smaller one can tell more
                if (size < fewest) {
                    partly.take(law, people, leftOut);
                    trial.prepare(people, partly);
                    trial.goThrough();
                    servedOnce |= trial.served;
                    if (trial.served == all) {
                        fewest = size;
                        bits = leftOut;
                    }
                }
            }
            neverServed = all & ~servedOnce;
            stale = false;
        }
    }

    /** An IMAGE. */
    private static final class Image {
        private final int[] ways = new int[MOST_PERSONS];
        private final int[] untils = new int[MOST_PERSONS];
        private final int[] servedRow = new int[MOST_PERSONS];
        private int servedSize;

        void take(People people, int[] row, int size) {
            for (int person = 0; person < people.count; person++) {
                ways[person] = people.fact(person, WAY);
                untils[person] = people.fact(person, UNTIL);
            }
            System.arraycopy(row, 0, servedRow, 0, MOST_PERSONS);
            servedSize = size;
        }

        /** How many there were in the SERVED ROW. */
        int putBack(People people, int[] row) {
            for (int person = 0; person < people.count; person++) {
                people.setFact(person, WAY, ways[person]);
                people.setFact(person, UNTIL, untils[person]);
            }
            System.arraycopy(servedRow, 0, row, 0, MOST_PERSONS);
            return servedSize;
        }
    }
}
