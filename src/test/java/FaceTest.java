import java.lang.reflect.Constructor;
import java.lang.reflect.Field;
import java.lang.reflect.Method;
import java.lang.reflect.Modifier;
import java.util.Set;
import java.util.TreeSet;

/** The public face, no more and no less, and promise 1: a new object. */
final class FaceTest {
    private static final String[] FACE = {
        "int feed(int,int,int,int,int)", "int row(int) IllegalArgumentException",
        "int law(int) IllegalArgumentException", "int fault()", "int told(int) IllegalArgumentException",
        "int person(int,int) NoSuchElementException IllegalArgumentException",
        "int way(int,int) NoSuchElementException IllegalArgumentException",
        "int until(int,int) NoSuchElementException IllegalArgumentException",
        "boolean must(int,int,int) NoSuchElementException IllegalArgumentException",
        "int worth(int,int,int) NoSuchElementException IllegalArgumentException",
        "int day(int) IllegalArgumentException",
        "int call(int,int) IndexOutOfBoundsException IllegalArgumentException",
        "int holder(int,int) IndexOutOfBoundsException", "int ends(int) NoSuchElementException",
        "int balance(int) NoSuchElementException", "int book(int,int) NoSuchElementException",
        "int owed(int,int) NoSuchElementException", "int tell(int) NoSuchElementException", "int forget()",
        "int judge()", "int again(int,int,int) NoSuchElementException IllegalArgumentException",
        "int plan(int,int) NoSuchElementException IllegalArgumentException",
        "int best(int,int) NoSuchElementException IllegalArgumentException",
        "int gain(int,int) NoSuchElementException IllegalArgumentException",
        "int rest(int) IllegalArgumentException IllegalStateException",
        "int polite(int) IllegalArgumentException IllegalStateException",
        "int struck(int) IllegalArgumentException", "int hopeless()", "int image()", "int restore()",
        "int count(int)",
    };

    public static void main(String[] args) {
        methods();
        membersBesides();
        newObject();
        Check.end();
    }

    private static String written(Method method) {
        StringBuilder text = new StringBuilder();
        text.append(method.getReturnType().getSimpleName()).append(' ').append(method.getName()).append('(');
        String between = "";
        for (Class<?> type : method.getParameterTypes()) {
            text.append(between).append(type.getSimpleName());
            between = ",";
        }
        text.append(')');
        for (Class<?> type : method.getExceptionTypes()) {
            text.append(' ').append(type.getSimpleName());
        }
        return text.toString();
    }

    private static void methods() {
        Set<String> due = new TreeSet<>(java.util.List.of(FACE));
        Set<String> got = new TreeSet<>();
        Set<String> names = new TreeSet<>();
        for (Method method : BowingRow.class.getDeclaredMethods()) {
            if (!Modifier.isPrivate(method.getModifiers())) {
                got.add(written(method));
                names.add(method.getName());
                Check.same(method.getName() + " is public", 1, Modifier.isPublic(method.getModifiers()) ? 1 : 0);
                Check.same(method.getName() + " is static", 0, Modifier.isStatic(method.getModifiers()) ? 1 : 0);
            }
        }
        Check.same("the methods", due.toString(), got.toString());
        for (Method method : BowingRow.class.getDeclaredMethods()) {
            if (Modifier.isPrivate(method.getModifiers())) {
                Check.same("a private " + method.getName(), 0, names.contains(method.getName()) ? 1 : 0);
            }
        }
    }

    private static void membersBesides() {
        Check.same("the class is public final", Modifier.PUBLIC | Modifier.FINAL, BowingRow.class.getModifiers());
        Check.same("NONE", -1, BowingRow.NONE);
        for (Field field : BowingRow.class.getDeclaredFields()) {
            boolean hidden = Modifier.isPrivate(field.getModifiers());
            Check.same("field " + field.getName() + " is hidden", field.getName().equals("NONE") ? 0 : 1, hidden ? 1 : 0);
        }
        Constructor<?>[] constructors = BowingRow.class.getDeclaredConstructors();
        Check.same("constructors", 1, constructors.length);
        Check.same("the constructor is public", Modifier.PUBLIC, constructors[0].getModifiers());
        for (Class<?> inside : BowingRow.class.getDeclaredClasses()) {
            Check.same(inside.getName() + " is static", 1, Modifier.isStatic(inside.getModifiers()) ? 1 : 0);
            Check.same(inside.getName() + " is public", 0, Modifier.isPublic(inside.getModifiers()) ? 1 : 0);
        }
    }

    private static void newObject() {
        BowingRow x = new BowingRow();
        int[] told = {0, 0, -1, -1, -1, 999, 0, -1};
        for (int what = 0; what < told.length; what++) {
            Check.same("told(" + what + ") of a new object", told[what], x.told(what));
        }
        for (int what = 0; what < 7; what++) {
            Check.same("day(" + what + ") of a new object", 0, x.day(what));
        }
        for (int what = 0; what < 3; what++) {
            Check.same("count(" + what + ") of a new object", 0, x.count(what));
        }
        Check.same("fault() of a new object", -1, x.fault());
        Check.same("judge() of a new object", -1, x.judge());
        Check.same("rest(0) of a new object", 1, x.rest(0));
        Check.same("rest(1) of a new object", 0, x.rest(1));
        Check.same("polite(0) of a new object", 0, x.polite(0));
        Check.same("polite(1) of a new object", 0, x.polite(1));
        Check.same("struck(0) of a new object", 0, x.struck(0));
        Check.same("struck(1) of a new object", 0, x.struck(1));
        Check.same("hopeless() of a new object", 0, x.hopeless());
        Check.same("restore() of a new object", -1, x.restore());
        Check.same("forget() of a new object", 0, x.forget());
    }
}
