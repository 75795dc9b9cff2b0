import java.nio.charset.StandardCharsets;
import java.util.ArrayList;
import java.util.Arrays;
import java.util.HashMap;
import java.util.List;
import java.util.Map;
import java.util.NoSuchElementException;
import java.util.TreeMap;

/** The document told once more, as plainly and as slowly as can be, to hold BowingRow against. */
final class Model {
    interface Formula {
        int at(int[] giver, int[] other, int hour);
    }

    record Rule(String word, int number, Formula formula) {
    }

    record Pass(int giver, int taker, int worth, int minute) {
    }

    static final class Fault extends Exception {
        private static final long serialVersionUID = 1;
        final int kind;
        final int place;

        Fault(int kind, int place) {
            this.kind = kind;
            this.place = place;
        }
    }

    static final class OneCall {
        int minute;
        List<Integer> there = new ArrayList<>();
        List<Integer> holders = new ArrayList<>();
        int goer = -1;
        int offers;
        int end = -1;
        boolean unasked;
    }

    static final class OneDay {
        List<OneCall> calls = new ArrayList<>();
        List<Pass> passes = new ArrayList<>();
        Map<Integer, Integer> ends = new TreeMap<>();
        boolean endless;
        int free;
    }

    private String tape = "";
    private int place = -1;
    private List<int[]> people = new ArrayList<>();
    private List<Rule> rules = new ArrayList<>();
    private List<Integer> served = new ArrayList<>();
    private List<List<int[]>> images = new ArrayList<>();
    private List<List<Integer>> servedImages = new ArrayList<>();

    // ---- the texts

    private static final class Text {
        final String text;
        int at;

        Text(String text) {
            this.text = text;
        }

        private void blanks() {
            while (at < text.length() && text.charAt(at) == ' ') {
                at++;
            }
        }

        boolean ended() {
            blanks();
            return at == text.length();
        }

        String peek() {
            blanks();
            int end = at;
            if (end == text.length()) {
                return "";
            }
            String kind = Character.toString(text.charAt(end)).matches("[0-9]") ? "[0-9]"
                : Character.toString(text.charAt(end)).matches("[a-z]") ? "[a-z]" : "";
            if (kind.isEmpty()) {
                return text.substring(at, at + 1);
            }
            while (end < text.length() && text.substring(end, end + 1).matches(kind)) {
                end++;
            }
            return text.substring(at, end);
        }

        Fault fault(int kind) {
            blanks();
            return new Fault(kind, at);
        }

        String take() {
            String next = peek();
            at += next.length();
            return next;
        }

        void expect(String what) throws Fault {
            if (!peek().equals(what)) {
                throw fault(1);
            }
            take();
        }

        int number(int least, int most, int never) throws Fault {
            if (!peek().matches("[0-9]+")) {
                throw fault(1);
            }
            java.math.BigInteger value = new java.math.BigInteger(peek());
            if (value.compareTo(java.math.BigInteger.valueOf(least)) < 0
                || value.compareTo(java.math.BigInteger.valueOf(most)) > 0 || value.intValue() == never) {
                throw fault(2);
            }
            take();
            return value.intValue();
        }
    }

    private static List<int[]> rowOf(String written) throws Fault {
        Text text = new Text(written);
        List<int[]> found = new ArrayList<>();
        int clauses = 0;
        while (!text.ended()) {
            String word = text.peek();
            if (!List.of("person", "knows", "way", "until").contains(word)) {
                throw text.fault(1);
            }
            if (clauses == 40 || word.equals("person") && found.size() == 8) {
                throw text.fault(3);
            }
            clauses++;
            text.take();
            int last = found.size() - 1;
            if (word.equals("person")) {
                found.add(new int[] {text.number(0, 999, -1), text.number(0, 99, -1), text.number(0, 9, -1),
                    text.number(1, 60, -1), text.number(1, 999, -1), 0, 3, 0});
            } else if (word.equals("knows")) {
                int one = text.number(0, last, -1);
                int other = text.number(0, last, one);
                found.get(one)[7] |= 1 << other;
                found.get(other)[7] |= 1 << one;
            } else if (word.equals("way")) {
                found.get(text.number(0, last, -1))[5] = text.number(0, 4, -1);
            } else {
                found.get(text.number(0, last, -1))[6] = text.number(0, 99, -1);
            }
            text.expect(";");
        }
        return found;
    }

    private static final Map<String, int[]> NUMBERED = Map.of("due", new int[] {1, 99}, "times", new int[] {1, 9},
        "bell", new int[] {0, 999}, "shut", new int[] {0, 999}, "bow", new int[] {0, 9}, "lapse", new int[] {1, 999});

    private static List<Rule> lawOf(String written) throws Fault {
        Text text = new Text(written);
        List<Rule> found = new ArrayList<>();
        while (!text.ended()) {
            String word = text.peek();
            if (!NUMBERED.containsKey(word) && !word.equals("worth") && !word.equals("must")) {
                throw text.fault(1);
            }
            if (found.size() == 10) {
                throw text.fault(3);
            }
            text.take();
            if (word.equals("worth")) {
                found.add(new Rule(word, 0, sum(text, 0)));
            } else if (word.equals("must")) {
                found.add(new Rule(word, 0, either(text, 0)));
            } else {
                found.add(new Rule(word, text.number(NUMBERED.get(word)[0], NUMBERED.get(word)[1], -1), null));
            }
            text.expect(";");
        }
        return found;
    }

    private static Formula either(Text text, int open) throws Fault {
        Formula left = both(text, open);
        while (text.peek().equals("or")) {
            text.take();
            Formula one = left;
            Formula two = both(text, open);
            left = (g, o, h) -> one.at(g, o, h) + two.at(g, o, h) > 0 ? 1 : 0;
        }
        return left;
    }

    private static Formula both(Text text, int open) throws Fault {
        Formula left = claim(text, open);
        while (text.peek().equals("and")) {
            text.take();
            Formula one = left;
            Formula two = claim(text, open);
            left = (g, o, h) -> one.at(g, o, h) + two.at(g, o, h) == 2 ? 1 : 0;
        }
        return left;
    }

    private static int opened(Text text, int open) throws Fault {
        if (open == 6) {
            throw text.fault(3);
        }
        text.take();
        return open + 1;
    }

    private static Formula claim(Text text, int open) throws Fault {
        if (text.peek().equals("not")) {
            Formula inner = claim(text, opened(text, open));
            return (g, o, h) -> inner.at(g, o, h) == 0 ? 1 : 0;
        }
        if (text.peek().equals("[")) {
            Formula inner = either(text, opened(text, open));
            text.expect("]");
            return inner;
        }
        Formula one = sum(text, open);
        String sign = text.peek();
        if (!List.of("<", ">", "=").contains(sign)) {
            throw text.fault(1);
        }
        text.take();
        Formula two = sum(text, open);
        return (g, o, h) -> {
            int compared = Integer.compare(one.at(g, o, h), two.at(g, o, h));
            return compared == (sign.equals("<") ? -1 : sign.equals(">") ? 1 : 0) ? 1 : 0;
        };
    }

    private static Formula sum(Text text, int open) throws Fault {
        Formula left = product(text, open);
        while (List.of("+", "-").contains(text.peek())) {
            boolean plus = text.take().equals("+");
            Formula one = left;
            Formula two = product(text, open);
            left = (g, o, h) -> (int) (plus ? (long) one.at(g, o, h) + two.at(g, o, h)
                : (long) one.at(g, o, h) - two.at(g, o, h));
        }
        return left;
    }

    private static Formula product(Text text, int open) throws Fault {
        Formula left = operand(text, open);
        while (List.of("*", "/").contains(text.peek())) {
            boolean times = text.take().equals("*");
            Formula one = left;
            Formula two = operand(text, open);
            left = (g, o, h) -> {
                long a = one.at(g, o, h);
                long b = two.at(g, o, h);
                return (int) (times ? a * b : b == 0 ? 0 : a / b);
            };
        }
        return left;
    }

    private static Formula operand(Text text, int open) throws Fault {
        String next = text.peek();
        if (next.equals("(")) {
            Formula inner = sum(text, opened(text, open));
            text.expect(")");
            return inner;
        }
        int own = List.of("", "age", "load", "errand").indexOf(next);
        int others = List.of("", "older", "heavier", "longer").indexOf(next);
        if (own > 0) {
            text.take();
            return (g, o, h) -> g[own];
        }
        if (others > 0) {
            text.take();
            return (g, o, h) -> o[others];
        }
        if (next.equals("hour")) {
            text.take();
            return (g, o, h) -> h;
        }
        int number = text.number(0, 9999, -1);
        return (g, o, h) -> number;
    }

    // ---- the law

    private static int number(List<Rule> law, String word, int without) {
        int found = without;
        for (Rule rule : law) {
            found = rule.word().equals(word) ? rule.number() : found;
        }
        return found;
    }

    private static Formula formula(List<Rule> law, String word, int without) {
        Formula found = (g, o, h) -> without;
        for (Rule rule : law) {
            found = rule.word().equals(word) ? rule.formula() : found;
        }
        return found;
    }

    // ---- the day

    private OneDay dayOf(List<Rule> law, int[] ways, int changer, int from, int changed, int planner, int bits) {
        OneDay day = new OneDay();
        int[] planned = {0};
        int[] now = ways.clone();
        int shut = number(law, "shut", 999);
        while (!day.endless && day.free < shut) {
            int minute = day.free;
            List<Integer> there = there(day, minute);
            if (there.isEmpty()) {
                minute = Integer.MAX_VALUE;
                for (int[] one : people) {
                    minute = one[0] > day.free ? Math.min(minute, one[0]) : minute;
                }
                if (minute >= shut) {
                    break;
                }
                there = there(day, minute);
            }
            OneCall call = new OneCall();
            call.minute = minute;
            call.there = there;
            if (changer >= 0 && day.calls.size() >= from) {
                now[changer] = changed;
            }
            day.calls.add(call);
            settle(day, call, law, now, planner, bits, planned);
        }
        return day;
    }

    private List<Integer> there(OneDay day, int minute) {
        List<Integer> there = new ArrayList<>();
        for (int person = 0; person < people.size(); person++) {
            int[] one = people.get(person);
            if (one[0] <= minute && !day.ends.containsKey(person) && minute - one[0] <= one[4]) {
                there.add(person);
            }
        }
        there.sort((a, b) -> people.get(a)[0] != people.get(b)[0] ? people.get(a)[0] - people.get(b)[0] : a - b);
        return there;
    }

    private static int balance(OneDay day, List<Rule> law, int person, int minute) {
        int lapse = number(law, "lapse", Integer.MAX_VALUE);
        int sum = 0;
        for (Pass pass : day.passes) {
            if (minute - pass.minute() <= lapse) {
                sum += pass.giver() == person ? pass.worth() : pass.taker() == person ? -pass.worth() : 0;
            }
        }
        return sum;
    }

    private void settle(OneDay day, OneCall call, List<Rule> law, int[] ways, int planner, int bits, int[] planned) {
        int due = number(law, "due", Integer.MAX_VALUE);
        for (int person : call.there) {
            int has = balance(day, law, person, call.minute);
            if (has >= due && (call.goer < 0 || has > balance(day, law, call.goer, call.minute))) {
                call.goer = person;
                call.unasked = true;
            }
        }
        Map<Integer, Integer> offered = new HashMap<>();
        int at = 0;
        while (call.goer < 0) {
            int holder = call.there.get(at % call.there.size());
            int next = call.there.get((at + 1) % call.there.size());
            boolean had = call.holders.contains(holder);
            call.holders.add(holder);
            if (had && number(law, "times", -1) < 0) {
                day.endless = true;
                day.free = call.minute;
                return;
            }
            if (offers(day, call, law, ways, new int[] {holder, next, offered.getOrDefault(holder, 0)},
                new int[] {planner, bits}, planned)) {
                offered.merge(holder, 1, Integer::sum);
                call.offers++;
                at++;
            } else {
                call.goer = holder;
            }
        }
        call.end = call.minute + number(law, "bow", 0) * call.offers + people.get(call.goer)[3];
        day.ends.put(call.goer, call.end);
        day.free = call.end;
        for (int person : call.there.subList(0, call.there.indexOf(call.goer))) {
            if (offered.containsKey(person)) {
                int worth = formula(law, "worth", 1).at(people.get(person), people.get(call.goer), call.minute / 60);
                day.passes.add(new Pass(person, call.goer, Math.max(0, Math.min(99, worth)), call.minute));
            }
        }
    }

    private boolean offers(OneDay day, OneCall call, List<Rule> law, int[] ways, int[] who, int[] plan, int[] planned) {
        int[] holder = people.get(who[0]);
        int[] next = people.get(who[1]);
        if (call.there.size() == 1 || who[2] == number(law, "times", -1)
            || call.minute >= number(law, "bell", Integer.MAX_VALUE)) {
            return false;
        }
        if (formula(law, "must", 0).at(holder, next, call.minute / 60) == 1) {
            return true;
        }
        if (who[0] == plan[0]) {
            int i = planned[0]++;
            return i <= 9 && (plan[1] >> i) % 2 == 1;
        }
        return switch (ways[who[0]]) {
            case 0 -> false;
            case 1 -> (holder[7] & 1 << who[1]) != 0;
            case 2 -> balance(day, law, who[0], call.minute) < holder[6];
            case 3 -> next[1] > holder[1];
            default -> true;
        };
    }

    private int[] ways() {
        return people.stream().mapToInt(one -> one[5]).toArray();
    }

    private OneDay today() {
        return dayOf(rules, ways(), -1, 0, 0, -1, 0);
    }

    private OneDay withWays(int[] ways) {
        return dayOf(rules, ways, -1, 0, 0, -1, 0);
    }

    private static int late(OneDay day, int person) {
        return day.ends.getOrDefault(person, 9999);
    }

    // ---- the face

    private void need(boolean good) {
        if (!good) {
            throw new IllegalArgumentException();
        }
    }

    private void needPerson(int person) {
        if (person < 0 || person >= people.size()) {
            throw new NoSuchElementException();
        }
    }

    int feed(int a, int b, int c, int d, int e) {
        if (tape.length() + 20 > 500) {
            return -1;
        }
        java.nio.ByteBuffer bytes = java.nio.ByteBuffer.allocate(20);
        bytes.putInt(a).putInt(b).putInt(c).putInt(d).putInt(e);
        tape += new String(bytes.array(), StandardCharsets.ISO_8859_1);
        return tape.length();
    }

    private String text(int n) {
        need(n >= 0 && n <= tape.length());
        String text = tape.substring(0, n);
        tape = "";
        place = -1;
        return text;
    }

    int row(int n) {
        String text = text(n);
        try {
            people = rowOf(text);
        } catch (Fault fault) {
            place = fault.place;
            return fault.kind - 10;
        }
        served.clear();
        images.clear();
        servedImages.clear();
        return people.size();
    }

    int law(int n) {
        String text = text(n);
        try {
            rules = lawOf(text);
        } catch (Fault fault) {
            place = fault.place;
            return fault.kind - 10;
        }
        return rules.size();
    }

    int fault() {
        return place;
    }

    int told(int what) {
        need(what >= 0 && what <= 7);
        return switch (what) {
            case 0 -> people.size();
            case 1 -> rules.size();
            case 5 -> number(rules, "shut", 999);
            case 6 -> number(rules, "bow", 0);
            default -> number(rules, List.of("", "", "due", "times", "bell", "", "", "lapse").get(what), -1);
        };
    }

    int person(int person, int what) {
        needPerson(person);
        need(what >= 0 && what <= 7);
        return people.get(person)[what];
    }

    int way(int person, int way) {
        needPerson(person);
        need(way >= 0 && way <= 4);
        int old = people.get(person)[5];
        people.get(person)[5] = way;
        return old;
    }

    int until(int person, int n) {
        needPerson(person);
        need(n >= 0 && n <= 99);
        int old = people.get(person)[6];
        people.get(person)[6] = n;
        return old;
    }

    int must(int person, int other, int hour) {
        needPerson(person);
        needPerson(other);
        need(person != other && hour >= 0 && hour <= 16);
        return formula(rules, "must", 0).at(people.get(person), people.get(other), hour);
    }

    int worth(int person, int other, int hour) {
        needPerson(person);
        needPerson(other);
        need(person != other && hour >= 0 && hour <= 16);
        int worth = formula(rules, "worth", 1).at(people.get(person), people.get(other), hour);
        return worth < 0 ? 0 : worth > 99 ? 99 : worth;
    }

    int day(int what) {
        need(what >= 0 && what <= 6);
        OneDay day = today();
        return switch (what) {
            case 0 -> day.calls.size();
            case 1 -> day.ends.size();
            case 2 -> day.calls.stream().mapToInt(call -> call.offers).sum();
            case 3 -> day.passes.size();
            case 4 -> day.endless ? 1 : 0;
            case 5 -> day.ends.values().stream().mapToInt(end -> end).max().orElse(0);
            default -> (int) day.calls.stream().filter(call -> call.unasked).count();
        };
    }

    private OneCall oneCall(int k) {
        OneDay day = today();
        if (k < 0 || k >= day.calls.size()) {
            throw new IndexOutOfBoundsException();
        }
        return day.calls.get(k);
    }

    int call(int k, int what) {
        OneCall call = oneCall(k);
        need(what >= 0 && what <= 4);
        return switch (what) {
            case 0 -> call.goer;
            case 1 -> call.minute;
            case 2 -> call.offers;
            case 3 -> call.there.stream().mapToInt(person -> 1 << person).sum();
            default -> call.end;
        };
    }

    int holder(int k, int i) {
        List<Integer> holders = oneCall(k).holders;
        return i < 0 || i >= holders.size() ? -1 : holders.get(i);
    }

    int ends(int person) {
        needPerson(person);
        return today().ends.getOrDefault(person, -1);
    }

    int balance(int person) {
        needPerson(person);
        OneDay day = today();
        return balance(day, rules, person, day.free);
    }

    int book(int person, int other) {
        needPerson(person);
        needPerson(other);
        return given(today(), person, other);
    }

    private static int given(OneDay day, int person, int other) {
        return day.passes.stream().filter(pass -> pass.giver() == person && pass.taker() == other)
            .mapToInt(Pass::worth).sum();
    }

    int owed(int person, int other) {
        needPerson(person);
        needPerson(other);
        OneDay day = today();
        int n = people.size();
        int[][] owes = new int[n][n];
        for (int a = 0; a < n; a++) {
            for (int b = 0; b < n; b++) {
                owes[a][b] = Math.max(0, given(day, b, a) - given(day, a, b));
            }
        }
        boolean found = true;
        while (found) {
            found = false;
            for (int i = 0; i < n * n * n && !found; i++) {
                int a = i / n / n;
                int b = i / n % n;
                int c = i % n;
                int least = Math.min(owes[a][b], Math.min(owes[b][c], owes[c][a]));
                found = a < b && a < c && least > 0;
                if (found) {
                    owes[a][b] -= least;
                    owes[b][c] -= least;
                    owes[c][a] -= least;
                }
            }
        }
        return owes[other][person];
    }

    int tell(int person) {
        needPerson(person);
        if (served.size() == 8) {
            return -1;
        }
        served.add(person);
        return served.size();
    }

    int forget() {
        int old = served.size();
        served.clear();
        return old;
    }

    int judge() {
        OneDay day = today();
        for (int i = 0; i < served.size(); i++) {
            if (i == day.calls.size() || day.calls.get(i).goer != served.get(i)) {
                return i;
            }
        }
        return -1;
    }

    int again(int k, int person, int way) {
        needPerson(person);
        need(k >= 0 && way >= 0 && way <= 4);
        return dayOf(rules, ways(), person, k, way, -1, 0).ends.getOrDefault(person, -1);
    }

    int plan(int person, int bits) {
        needPerson(person);
        need(bits >= 0 && bits <= 1023);
        return dayOf(rules, ways(), -1, 0, 0, person, bits).ends.getOrDefault(person, -1);
    }

    int best(int person, int what) {
        needPerson(person);
        need(what == 0 || what == 1);
        int bestBits = -1;
        int bestEnd = 0;
        for (int bits = 0; bits <= 1023; bits++) {
            int end = late(dayOf(rules, ways(), -1, 0, 0, person, bits), person);
            if (bestBits < 0 || end < bestEnd) {
                bestBits = bits;
                bestEnd = end;
            }
        }
        return what == 0 ? bestBits : bestEnd == 9999 ? -1 : bestEnd;
    }

    int gain(int person, int way) {
        needPerson(person);
        need(way >= 0 && way <= 4);
        int[] ways = ways();
        ways[person] = way;
        return late(today(), person) - late(withWays(ways), person);
    }

    private List<int[]> allWays() {
        List<int[]> all = new ArrayList<>(List.of(new int[0]));
        for (int person = 0; person < people.size(); person++) {
            List<int[]> longer = new ArrayList<>();
            for (int[] ways : all) {
                for (int way = 0; way < 5; way++) {
                    int[] more = Arrays.copyOf(ways, ways.length + 1);
                    more[ways.length] = way;
                    longer.add(more);
                }
            }
            all = longer;
        }
        return all;
    }

    private void needFew() {
        if (people.size() > 5) {
            throw new IllegalStateException();
        }
    }

    int rest(int what) {
        need(what == 0 || what == 1);
        needFew();
        int count = 0;
        int first = -1;
        List<int[]> all = allWays();
        for (int row = 0; row < all.size(); row++) {
            OneDay day = withWays(all.get(row));
            boolean rests = true;
            for (int person = 0; person < people.size(); person++) {
                for (int way = 0; way < 5 && rests; way++) {
                    int[] other = all.get(row).clone();
                    other[person] = way;
                    rests = late(withWays(other), person) >= late(day, person);
                }
            }
            count += rests ? 1 : 0;
            first = rests && first < 0 ? row : first;
        }
        return what == 0 ? count : first;
    }

    int polite(int what) {
        need(what == 0 || what == 1);
        needFew();
        int bestRow = -1;
        int bestSum = 0;
        List<int[]> all = allWays();
        for (int row = 0; row < all.size(); row++) {
            OneDay day = withWays(all.get(row));
            int sum = 0;
            for (int person = 0; person < people.size(); person++) {
                sum += late(day, person);
            }
            if (bestRow < 0 || sum < bestSum) {
                bestRow = row;
                bestSum = sum;
            }
        }
        return what == 0 ? bestRow : bestSum;
    }

    private OneDay without(int bits) {
        List<Rule> left = new ArrayList<>();
        for (int rule = 0; rule < rules.size(); rule++) {
            if ((bits >> rule) % 2 == 0) {
                left.add(rules.get(rule));
            }
        }
        return dayOf(left, ways(), -1, 0, 0, -1, 0);
    }

    int struck(int what) {
        need(what == 0 || what == 1);
        for (int many = 0; many <= rules.size(); many++) {
            for (int bits = 0; bits < 1 << rules.size(); bits++) {
                if (Integer.bitCount(bits) == many && without(bits).ends.size() == people.size()) {
                    return what == 0 ? bits : many;
                }
            }
        }
        return -1;
    }

    int hopeless() {
        int hopeless = (1 << people.size()) - 1;
        for (int bits = 0; bits < 1 << rules.size(); bits++) {
            for (int person : without(bits).ends.keySet()) {
                hopeless &= ~(1 << person);
            }
        }
        return hopeless;
    }

    private List<int[]> copy(List<int[]> from) {
        List<int[]> copy = new ArrayList<>();
        for (int[] one : from) {
            copy.add(one.clone());
        }
        return copy;
    }

    int image() {
        if (images.size() == 3) {
            return -1;
        }
        images.add(copy(people));
        servedImages.add(new ArrayList<>(served));
        return images.size();
    }

    int restore() {
        if (images.isEmpty()) {
            return -1;
        }
        people = images.remove(images.size() - 1);
        served = servedImages.remove(servedImages.size() - 1);
        return images.size();
    }

    int count(int what) {
        return what == 0 ? served.size() : what == 1 ? images.size() : what == 2 ? tape.length() : -1;
    }
}
