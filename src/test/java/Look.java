import java.util.ArrayList;
import java.util.List;
import java.util.function.IntSupplier;

/**
 * What an object answers to all that can be asked, but for fault(). It is used up by that: IMAGES and the
 * TAPE are looked at by taking them. It stays below 400 calls, as an object has but 512.
 */
final class Look {
    private final BowingRow x;
    private final List<String> lines = new ArrayList<>();

    private Look(BowingRow x) {
        this.x = x;
    }

    static List<String> at(BowingRow x) {
        Look look = new Look(x);
        look.counts();
        int persons = x.told(0);
        look.told();
        for (int person = 0; person < persons; person++) {
            look.person(person, (person + 1) % persons);
        }
        look.day();
        look.whatIf();
        look.images(persons);
        look.tape(persons);
        Check.same("a look of too many calls", 0, look.lines.size() > 390 ? 1 : 0);
        return look.lines;
    }

    private void ask(String call, IntSupplier answer) {
        String got;
        try {
            got = Integer.toString(answer.getAsInt());
        } catch (RuntimeException e) {
            got = e.getClass().getSimpleName();
        }
        lines.add(call + " is " + got);
    }

    private void counts() {
        for (int i = 0; i < 3; i++) {
            int what = i;
            ask("count(" + what + ")", () -> x.count(what));
        }
        ask("judge()", x::judge);
    }

    private void told() {
        for (int i = 0; i < 8; i++) {
            int what = i;
            ask("told(" + what + ")", () -> x.told(what));
        }
    }

    private void person(int person, int other) {
        for (int i = 0; i < 8; i++) {
            int what = i;
            ask("person(" + person + ", " + what + ")", () -> x.person(person, what));
        }
        ask("must of " + person, () -> x.must(person, other, 0) ? 1 : 0);
        ask("must of " + other, () -> x.must(other, person, 16) ? 1 : 0);
        ask("worth of " + person, () -> x.worth(person, other, 0));
        ask("worth of " + other, () -> x.worth(other, person, 16));
        ask("ends(" + person + ")", () -> x.ends(person));
        ask("balance(" + person + ")", () -> x.balance(person));
        ask("book of " + person, () -> x.book(person, other));
        ask("book of " + other, () -> x.book(other, person));
        ask("owed of " + person, () -> x.owed(person, other));
        ask("again of " + person, () -> x.again(1, person, 4));
        ask("plan of " + person, () -> x.plan(person, 3));
        ask("best of " + person, () -> x.best(person, 1));
        ask("gain of " + person, () -> x.gain(person, 0));
    }

    private void day() {
        for (int i = 0; i < 7; i++) {
            int what = i;
            ask("day(" + what + ")", () -> x.day(what));
        }
        int calls = x.day(0);
        for (int i = 0; i < calls; i++) {
            int k = i;
            for (int j = 0; j < 5; j++) {
                int what = j;
                ask("call(" + k + ", " + what + ")", () -> x.call(k, what));
            }
            ask("holder(" + k + ", 0)", () -> x.holder(k, 0));
            ask("holder(" + k + ", 1)", () -> x.holder(k, 1));
        }
    }

    private void whatIf() {
        for (int i = 0; i < 2; i++) {
            int what = i;
            ask("rest(" + what + ")", () -> x.rest(what));
            ask("polite(" + what + ")", () -> x.polite(what));
            ask("struck(" + what + ")", () -> x.struck(what));
        }
        ask("hopeless()", x::hopeless);
    }

    private void images(int persons) {
        int images = x.count(1);
        for (int i = 0; i <= images; i++) {
            ask("restore()", x::restore);
            for (int j = 0; j < persons; j++) {
                int person = j;
                ask("restored way of " + person, () -> x.person(person, 5));
                ask("restored until of " + person, () -> x.person(person, 6));
            }
            ask("restored count(0)", () -> x.count(0));
            ask("restored judge()", x::judge);
            ask("restored day(5)", () -> x.day(5));
        }
    }

    /** What stands on the TAPE, taken as a LAW. */
    private void tape(int persons) {
        ask("law of the tape", () -> x.law(x.count(2)));
        ask("fault of the tape", x::fault);
        ask("due of the tape", () -> x.told(2));
        ask("bow of the tape", () -> x.told(6));
        if (persons > 1) {
            ask("worth of the tape", () -> x.worth(0, 1, 1));
        }
    }
}
