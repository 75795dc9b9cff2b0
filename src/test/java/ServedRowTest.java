import java.util.NoSuchElementException;

/** Promises 19 to 21 and 30 to 32: the SERVED ROW, IMAGES, and what is counted. */
final class ServedRowTest {
    private static final String THREE_AT_ONCE =
        "person 0 30 1 5 100;person 0 60 2 7 100;person 0 20 0 3 100;";

    public static void main(String[] args) {
        tellAndForget();
        judge();
        judgeEndless();
        images();
        imagesStayWhole();
        counts();
        Check.end();
    }

    private static void tellAndForget() {
        BowingRow x = Check.with(THREE_AT_ONCE, "");
        for (int i = 1; i <= 8; i++) {
            Check.same("tell " + i, i, x.tell(i % 3));
        }
        Check.same("tell 9", -1, x.tell(0));
        Check.same("a ninth changes nothing", 8, x.count(0));
        Check.fails("tell(3) with eight", NoSuchElementException.class, () -> x.tell(3));
        Check.same("forget", 8, x.forget());
        Check.same("forget again", 0, x.forget());
        Check.fails("tell(3)", NoSuchElementException.class, () -> x.tell(3));
        Check.fails("tell(-1)", NoSuchElementException.class, () -> x.tell(-1));
        Check.same("a wrong one is not told", 0, x.count(0));
        Check.same("tell after forget", 1, x.tell(2));
    }

    private static void judge() {
        BowingRow x = Check.with(THREE_AT_ONCE, "");
        Check.same("nobody told", -1, x.judge());
        x.tell(0);
        Check.same("the first one told", -1, x.judge());
        x.tell(1);
        x.tell(2);
        Check.same("all told", -1, x.judge());
        x.tell(2);
        x.tell(2);
        Check.same("more than there are calls", 3, x.judge());
        x.way(0, 4);
        Check.same("the first that is not the one", 0, x.judge());
        x.way(0, 0);
        x.way(1, 4);
        Check.same("the second that is not the one", 1, x.judge());
        x.forget();
        x.tell(0);
        x.tell(2);
        x.tell(1);
        Check.same("told as it goes", -1, x.judge());
        Check.law(x, "bell 0;");
        Check.same("by another law", 1, x.judge());
        Check.law(x, "shut 0;");
        Check.same("with no call", 0, x.judge());
    }

    private static void judgeEndless() {
        BowingRow x = Check.with("person 0 0 0 1 99;person 1 0 0 1 99;person 1 0 0 1 99;way 1 4;way 2 4;", "");
        x.tell(0);
        Check.same("ahead of the endless call", -1, x.judge());
        x.tell(1);
        Check.same("of the endless call nobody is the one", 1, x.judge());
    }

    private static void images() {
        BowingRow x = Check.with(THREE_AT_ONCE, "");
        Check.same("restore without", -1, x.restore());
        x.tell(1);
        Check.same("image 1", 1, x.image());
        x.way(0, 3);
        x.until(1, 50);
        x.tell(2);
        Check.same("image 2", 2, x.image());
        x.way(0, 4);
        x.forget();
        Check.same("image 3", 3, x.image());
        Check.same("image 4", -1, x.image());
        Check.same("images stay three", 3, x.count(1));
        x.way(0, 1);
        x.tell(0);
        Check.same("restore 3", 2, x.restore());
        Check.same("way of image 3", 4, x.person(0, 5));
        Check.same("served row of image 3", 0, x.count(0));
        Check.same("restore 2", 1, x.restore());
        Check.same("way of image 2", 3, x.person(0, 5));
        Check.same("until of image 2", 50, x.person(1, 6));
        Check.same("served row of image 2", 2, x.count(0));
        Check.same("the day of image 2", 1, x.call(0, 0));
        Check.same("restore 1", 0, x.restore());
        Check.same("way of image 1", 0, x.person(0, 5));
        Check.same("until of image 1", 3, x.person(1, 6));
        Check.same("served row of image 1", 1, x.count(0));
        Check.same("the day of image 1", 0, x.call(0, 0));
        Check.same("judged as of image 1", 0, x.judge());
        Check.same("restore without any more", -1, x.restore());
    }

    private static void imagesStayWhole() {
        BowingRow x = Check.with(THREE_AT_ONCE, "");
        x.tell(0);
        x.tell(1);
        x.image();
        x.forget();
        x.tell(2);
        x.tell(2);
        Check.law(x, "bow 3;");
        Check.feed(x, "12345");
        Check.same("told another row", 0, x.judge());
        x.restore();
        Check.same("the row told ahead of the image", -1, x.judge());
        Check.same("the law is not of the image", 3, x.told(6));
        Check.same("the tape is not of the image", 20, x.count(2));
        x.law(0);
        x.image();
        Check.row(x, THREE_AT_ONCE);
        Check.same("a row ends images", -1, x.restore());
    }

    private static void counts() {
        BowingRow x = Check.with(THREE_AT_ONCE, "");
        x.tell(0);
        x.tell(0);
        x.image();
        x.feed(0, 0, 0, 0, 0);
        x.feed(0, 0, 0, 0, 0);
        x.feed(0, 0, 0, 0, 0);
        Check.same("count(0)", 2, x.count(0));
        Check.same("count(1)", 1, x.count(1));
        Check.same("count(2)", 60, x.count(2));
        Check.same("count(3)", -1, x.count(3));
        Check.same("count(-1)", -1, x.count(-1));
        Check.same("count(MIN)", -1, x.count(Integer.MIN_VALUE));
    }
}
