import java.util.List;
import java.util.function.Consumer;
import java.util.function.Supplier;
import java.util.function.ToIntFunction;

/** Two objects made alike: one meets a call that is refused, and both must answer alike from then on. */
final class Twins {
    private static final String THREE = "person 0 30 1 5 100;person 0 60 2 7 100;person 1 20 0 3 100;"
        + "knows 0 1;way 0 1;way 1 3;until 2 9;";
    private static final String LAW = "due 40;times 2;bow 1;worth older-age+hour+1;must heavier>load+1;lapse 50;";

    private Twins() {
    }

    /** Three PERSONS, a LAW, a SERVED ROW as the DAY goes, two IMAGES, no TAPE. */
    static BowingRow busyWithoutTape() {
        BowingRow x = Check.with(THREE, LAW);
        x.tell(2);
        x.way(2, 4);
        x.image();
        x.forget();
        x.until(1, 77);
        x.tell(0);
        x.tell(1);
        x.image();
        x.way(0, 1);
        x.until(0, 1);
        x.forget();
        x.tell(1);
        x.tell(0);
        x.tell(2);
        return x;
    }

    /** The same with a LAW of 20 bytes on the TAPE. */
    static BowingRow busy() {
        BowingRow x = busyWithoutTape();
        Check.feed(x, "due 7;bow 8;worth 9;");
        return x;
    }

    /** Eight PERSONS, eight told, three IMAGES, a TAPE of 500 bytes. */
    static BowingRow full() {
        BowingRow x = Check.with("person 0 5 5 9 500;".repeat(8) + "way 0 4;", "");
        for (int i = 0; i < 3; i++) {
            x.way(1 + i, 4);
            x.image();
        }
        for (int i = 0; i < 8; i++) {
            x.tell(i < 7 ? (i + 4) % 8 : 0);
        }
        Check.feed(x, " ".repeat(480) + "due 7;bow 8;worth 9;");
        return x;
    }

    private static void same(String what, BowingRow one, BowingRow other) {
        List<String> due = Look.at(other);
        List<String> got = Look.at(one);
        for (int i = 0; i < Math.min(due.size(), got.size()); i++) {
            if (!due.get(i).equals(got.get(i))) {
                Check.same("after " + what, due.get(i), got.get(i));
                return;
            }
        }
        Check.same("answers after " + what, due.size(), got.size());
    }

    /** The call throws, and nothing changes. */
    static void throwing(String what, Supplier<BowingRow> made, Class<? extends RuntimeException> due,
        Consumer<BowingRow> call) {
        BowingRow x = made.get();
        BowingRow y = made.get();
        Check.fails(what, due, () -> call.accept(x));
        Check.same("fault() after " + what, y.fault(), x.fault());
        same(what, x, y);
    }

    /** The call answers so, and nothing changes. */
    static void answering(String what, Supplier<BowingRow> made, int due, ToIntFunction<BowingRow> call) {
        BowingRow x = made.get();
        BowingRow y = made.get();
        Check.same(what, due, call.applyAsInt(x));
        Check.same("fault() after " + what, y.fault(), x.fault());
        same(what, x, y);
    }

    /** A ROW with a FAULT: the place is told, and all stays. */
    static void badRow(String text, int fault, int place) {
        BowingRow x = busyWithoutTape();
        Check.same("row " + text, fault - 10, Check.row(x, text));
        Check.same("place of the fault in row " + text, place, x.fault());
        same("row " + text, x, busyWithoutTape());
    }

    /** A LAW with a FAULT: the place is told, and all stays. */
    static void badLaw(String text, int fault, int place) {
        BowingRow x = busyWithoutTape();
        Check.same("law " + text, fault - 10, Check.law(x, text));
        Check.same("place of the fault in law " + text, place, x.fault());
        same("law " + text, x, busyWithoutTape());
    }
}
