/** What the tests of promises share: an object under test, and the answers that are due. */
final class Desk {
    private static int wrong = 0;
    private static int asked = 0;
    private static String place = "";

    private Desk() {
    }

    static void due(String call, long got, long want) {
        asked++;
        if (got != want) {
            wrong++;
            System.out.println(place + call + " answered " + got + ", due is " + want);
        }
    }

    static void due(String call, boolean got, boolean want) {
        due(call, got ? 1 : 0, want ? 1 : 0);
    }

    /** What is asked from here on stands under these words. */
    static void under(String words) {
        place = words + ": ";
    }

    /** Exits with 1 if an answer was not the one that is due. */
    static void close(String test) {
        System.out.println(test + ": " + asked + " answers, " + wrong + " not as due");
        if (wrong != 0) {
            System.exit(1);
        }
    }

    static LargePages with(int... sizes) {
        LargePages x = new LargePages();
        for (int size : sizes) {
            x.object(size);
        }
        return x;
    }

    /** Feeds a text, and the tape ends with it. */
    static int feed(LargePages x, String text) {
        int from = x.about(5);
        for (int i = 0; i < text.length(); i += 20) {
            int[] w = new int[5];
            for (int k = 0; k < 20; k++) {
                w[k / 4] = w[k / 4] << 8 | (i + k < text.length() ? text.charAt(i + k) : 0);
            }
            x.feed(w[0], w[1], w[2], w[3], w[4]);
        }
        return x.end(from + text.length());
    }

    static int text(LargePages x, String text) {
        x.end(0);
        feed(x, text);
        return x.text();
    }

    /** The text rules then. */
    static void law(LargePages x, String text) {
        int number = text(x, text);
        due("text of " + text, number >= 0, true);
        due("by it", x.by(number), true);
    }

    static void touch(LargePages x, int object, int first, int n) {
        for (int page = first; page < first + n; page++) {
            due("touch(" + object + ", " + page + ")", x.touch(object, page) >= 0, true);
        }
    }

    static void write(LargePages x, int object, int first, int n, int value) {
        for (int page = first; page < first + n; page++) {
            due("write(" + object + ", " + page + ")", x.write(object, page, value) >= 0, true);
        }
    }

    /** Asks the four fields of a line of the book. */
    static void line(LargePages x, int i, int time, int what, int a, int b) {
        due("book(" + i + ", 0)", x.book(i, 0), time);
        due("book(" + i + ", 1)", x.book(i, 1), what);
        due("book(" + i + ", 2)", x.book(i, 2), a);
        due("book(" + i + ", 3)", x.book(i, 3), b);
    }

    /** Asks the six fields of a reservation. */
    static void reservation(LargePages x, int i, int object, int page, int n, int frame, int time, int there) {
        due("reserved(" + i + ", 0)", x.reserved(i, 0), object);
        due("reserved(" + i + ", 1)", x.reserved(i, 1), page);
        due("reserved(" + i + ", 2)", x.reserved(i, 2), n);
        due("reserved(" + i + ", 3)", x.reserved(i, 3), frame);
        due("reserved(" + i + ", 4)", x.reserved(i, 4), time);
        due("reserved(" + i + ", 5)", x.reserved(i, 5), there);
    }
}
