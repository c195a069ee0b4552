/** Promises 1 and 18 to 47: a new object, all that can be asked, what is said, the image. */
public final class QuestionsTest {
    private static final int[] ODD = {Integer.MIN_VALUE, -3, -2, 64, 100, Integer.MAX_VALUE};

    public static void main(String[] args) {
        fresh(new LargePages());
        pages();
        frames();
        reservations();
        figures();
        book();
        foretold();
        would();
        victims();
        next();
        entries();
        holes();
        values();
        bits();
        said();
        image();
        imageOfWhatIsTold();
        about();
        asking();
        Desk.close("QuestionsTest");
    }

    private static void fresh(LargePages x) {
        for (int frame = 0; frame < 64; frame++) {
            Desk.due("frame", x.frame(frame), -1);
        }
        Desk.due("reserved", x.reserved(-1, 0), 0);
        Desk.due("book", x.book(-1, 0), 0);
        Desk.due("let", x.let(-1), 0);
        int[] is = {0, 499, 0, 64, 0, -2};
        int[] about = {0, 0, -1, 0, 0};
        for (int what = 0; what < is.length; what++) {
            Desk.due("is(" + what + ")", x.is(what), is[what]);
        }
        for (int what = 0; what < about.length; what++) {
            Desk.due("about(" + what + ")", x.about(what), about[what]);
        }
        Desk.due("holes(16)", x.holes(16), 4);
        Desk.due("holes(4)", x.holes(4), 16);
        Desk.due("holes(1)", x.holes(1), 64);
        Desk.due("reach", x.reach(), 0);
        Desk.due("spread", x.spread(), 0);
        Desk.due("sound", x.sound(), true);
        Desk.due("whose", x.whose(), 0);
        Desk.due("undo", x.undo(), -1);
    }

    private static void pages() {
        LargePages x = Desk.with(20);
        int[] absent = {-1, 0, 0, 0, 0, -1};
        int[] touched = {17, 0, 0, 0, 1, 1};
        x.touch(0, 2);
        x.touch(0, 17);
        for (int what = 0; what < 6; what++) {
            Desk.due("page(0, 0, " + what + ")", x.page(0, 0, what), absent[what]);
            Desk.due("page(0, 17, " + what + ")", x.page(0, 17, what), touched[what]);
            Desk.due("page(0, 20, " + what + ")", x.page(0, 20, what), -2);
            Desk.due("page(0, -1, " + what + ")", x.page(0, -1, what), -2);
            Desk.due("page(1, 0, " + what + ")", x.page(1, 0, what), -2);
            Desk.due("page(-1, 0, " + what + ")", x.page(-1, 0, what), -2);
        }
        x.write(0, 17, 40);
        x.sweep(0);
        x.write(0, 17, 41);
        int[] written = {17, 1, 41, 40, 1, 3};
        for (int what = 0; what < 6; what++) {
            Desk.due("page(0, 17, " + what + ")", x.page(0, 17, what), written[what]);
        }
        for (int odd : ODD) {
            Desk.due("page(0, 0, " + odd + ")", x.page(0, 0, odd), -2);
            Desk.due("page(" + odd + ", 0, 0)", x.page(odd, 0, 0), -2);
            Desk.due("page(0, " + odd + ", 0)", x.page(0, odd, 0), -2);
        }
        Desk.due("page(0, 0, 6)", x.page(0, 0, 6), -2);
        Desk.due("page(0, 0, -1)", x.page(0, 0, -1), -2);
    }

    private static void frames() {
        LargePages x = Desk.with(3, 32);
        x.touch(0, 2);
        x.touch(1, 30);
        Desk.due("frame(0)", x.frame(0), 2);
        Desk.due("frame(1)", x.frame(1), -1);
        Desk.due("frame(16)", x.frame(16), -2);
        Desk.due("frame(30)", x.frame(30), 62);
        Desk.due("frame(31)", x.frame(31), -2);
        Desk.due("frame(32)", x.frame(32), -1);
        Desk.due("frame(63)", x.frame(63), -1);
        Desk.due("frame(-1)", x.frame(-1), -3);
        for (int odd : ODD) {
            Desk.due("frame(" + odd + ")", x.frame(odd), -3);
        }
    }

    private static void reservations() {
        LargePages x = Desk.with(32, 7);
        x.touch(0, 20);
        x.touch(1, 1);
        x.touch(1, 6);
        x.touch(0, 21);
        Desk.due("reserved(NONE)", x.reserved(-1, 0), 3);
        Desk.reservation(x, 0, 0, 16, 16, 0, 3, 2);
        Desk.reservation(x, 1, 1, 0, 4, 16, 1, 1);
        Desk.reservation(x, 2, 1, 6, 1, 20, 2, 1);
        Desk.due("reserved(3, 0)", x.reserved(3, 0), -2);
        Desk.due("reserved(0, 6)", x.reserved(0, 6), -2);
        Desk.due("reserved(0, -1)", x.reserved(0, -1), -2);
        for (int odd : ODD) {
            Desk.due("reserved(" + odd + ", 0)", x.reserved(odd, 0), -2);
            Desk.due("reserved(0, " + odd + ")", x.reserved(0, odd), -2);
        }
    }

    private static void figures() {
        LargePages x = Desk.with(32);
        x.write(0, 0, 1);
        x.sweep(0);
        x.day(2);
        Desk.due("time", x.is(0) >= 1, true);
        Desk.due("day", x.is(2), 2);
        Desk.due("savings", x.is(4) >= 1, true);
        Desk.due("is(5)", x.is(5), -2);
        Desk.due("is(-1)", x.is(-1), -2);
        for (int odd : ODD) {
            Desk.due("is(" + odd + ")", x.is(odd), -2);
        }
    }

    private static void book() {
        LargePages x = Desk.with(32, 32);
        Desk.law(x, "wants 1;");
        for (int i = 0; i < 25; i++) {
            x.touch(0, i);
        }
        Desk.due("book(NONE)", x.book(-1, 3), 25);
        Desk.line(x, 0, 0, 0, 0, 0);
        Desk.line(x, 24, 24, 0, 0, 24);
        x.touch(1, 31);
        Desk.due("the latest 25", x.book(-1, 0), 25);
        Desk.line(x, 0, 1, 0, 0, 1);
        Desk.line(x, 24, 25, 0, 1, 31);
        Desk.due("book(25, 0)", x.book(25, 0), -2);
        Desk.due("book(0, 4)", x.book(0, 4), -2);
        Desk.due("book(0, -1)", x.book(0, -1), -2);
        x.drop(1);
        x.empty(1);
        Desk.line(x, 23, 26, 5, 1, 0);
        Desk.line(x, 24, 26, 4, 0, 1);
        Desk.due("ledger(0)", x.ledger(0), 23);
        Desk.due("ledger(1)", x.ledger(1), 0);
        Desk.due("ledger(4)", x.ledger(4), 1);
        Desk.due("ledger(5)", x.ledger(5), 1);
        Desk.due("ledger(6)", x.ledger(6), -2);
        Desk.due("ledger(-1)", x.ledger(-1), -2);
        x.empty(16);
        Desk.line(x, 24, 26, 4, 0, 16);
        for (int odd : ODD) {
            Desk.due("book(" + odd + ", 0)", x.book(odd, 0), -2);
            Desk.due("book(0, " + odd + ")", x.book(0, odd), -2);
            Desk.due("ledger(" + odd + ")", x.ledger(odd), -2);
        }
        LargePages y = Desk.with(32);
        y.touch(0, 0);
        y.image();
        for (int i = 0; i < 30; i++) {
            y.drop(0);
        }
        Desk.due("ledger(5)", y.ledger(5), 25);
        y.undo();
        Desk.due("the book is taken back", y.book(0, 1), 5);
        y.back();
        Desk.due("the book is in the image", y.book(-1, 0), 1);
    }

    private static void foretold() {
        LargePages x = Desk.with(32, 9, 32);
        x.touch(2, 1);
        for (int n = 1; n <= 60; n += 7) {
            int free = x.foretold(n, 0);
            int reserved = x.foretold(n, 1);
            int entries = x.foretold(n, 2);
            x.image();
            x.day(n);
            Desk.due("free", free, x.is(3));
            Desk.due("reservations", reserved, x.reserved(-1, 0));
            Desk.due("entries", entries, x.entries(0) + x.entries(1) + x.entries(2));
            x.back();
        }
        Desk.due("nothing is done", x.is(2), 0);
        Desk.due("nothing is done", x.is(1), 499);
        Desk.due("no step", x.about(3), 1);
        for (int odd : new int[] {Integer.MIN_VALUE, -1, 0, 61, Integer.MAX_VALUE}) {
            Desk.due("foretold(" + odd + ", 0)", x.foretold(odd, 0), -1);
        }
        for (int odd : new int[] {Integer.MIN_VALUE, -1, 3, Integer.MAX_VALUE}) {
            Desk.due("foretold(1, " + odd + ")", x.foretold(1, odd), -1);
        }
        LargePages y = new LargePages();
        Desk.due("without objects", y.foretold(5, 0), 64);
        Desk.due("without objects", y.foretold(5, 1), 0);
        Desk.due("without objects", y.foretold(5, 2), 0);
    }

    private static void would() {
        LargePages x = Desk.with(32, 32, 6);
        Desk.due("of 16", x.would(0, 31, 0), 16);
        Desk.due("its frame", x.would(0, 31, 1), 15);
        Desk.due("of 4", x.would(2, 3, 0), 4);
        Desk.due("its frame", x.would(2, 3, 1), 3);
        Desk.due("of 1", x.would(2, 5, 0), 1);
        Desk.due("its frame", x.would(2, 5, 1), 0);
        x.touch(2, 5);
        Desk.due("it is there", x.would(2, 5, 0), -1);
        Desk.due("it is there", x.would(2, 5, 1), -1);
        Desk.due("the lowest block", x.would(2, 3, 1), 7);
        Desk.due("the lowest block", x.would(0, 31, 1), 31);
        x.touch(0, 31);
        Desk.due("one is that has it", x.would(0, 30, 0), 0);
        Desk.due("its frame", x.would(0, 30, 1), 30);
        Desk.due("would(0, 0, 2)", x.would(0, 0, 2), -1);
        Desk.due("would(0, 0, -1)", x.would(0, 0, -1), -1);
        Desk.due("would(3, 0, 0)", x.would(3, 0, 0), -1);
        Desk.due("would(2, 6, 0)", x.would(2, 6, 0), -1);
        for (int odd : ODD) {
            Desk.due("would(" + odd + ", 0, 0)", x.would(odd, 0, 0), -1);
            Desk.due("would(0, " + odd + ", 0)", x.would(0, odd, 0), -1);
            Desk.due("would(0, 0, " + odd + ")", x.would(0, 0, odd), -1);
        }
        Desk.due("nothing is done", x.about(3), 2);
        Desk.due("nothing is done", x.reserved(-1, 0), 2);
    }

    private static void victims() {
        LargePages x = Desk.with(32, 32, 8);
        Desk.due("none", x.victim(1), -1);
        x.touch(0, 0);
        x.touch(2, 0);
        Desk.due("the first fault is eldest", x.victim(1), 0);
        Desk.due("for 4", x.victim(4), 0);
        Desk.due("for 16", x.victim(16), -1);
        x.touch(0, 1);
        Desk.due("now the other", x.victim(1), 16);
        Desk.due("four frames with a page", x.victim(4), 0);
        x.touch(2, 0);
        Desk.due("a use is no fault", x.victim(1), 16);
        x.touch(0, 4);
        x.touch(0, 8);
        x.touch(0, 12);
        Desk.due("no block of 4 without a page", x.victim(4), -1);
        Desk.touch(x, 2, 1, 3);
        Desk.due("no absent page", x.victim(1), 0);
        for (int odd : ODD) {
            Desk.due("victim(" + odd + ")", x.victim(odd), -1);
        }
        for (int odd : new int[] {-1, 0, 2, 3, 8, 17}) {
            Desk.due("victim(" + odd + ")", x.victim(odd), -1);
        }
    }

    private static void next() {
        LargePages x = Desk.with(32, 3);
        Desk.due("none", x.next(1), -1);
        x.touch(0, 1);
        x.touch(1, 0);
        Desk.due("no page in it", x.next(1), 0);
        Desk.due("no page in it", x.next(4), 4);
        Desk.due("used at 0", x.next(16), 0);
        x.touch(0, 1);
        Desk.due("used at 1", x.next(16), 16);
        x.write(1, 0, 5);
        Desk.due("no dirty one", x.next(16), 0);
        x.write(0, 1, 5);
        Desk.due("no dirty one", x.next(16), -1);
        Desk.due("no dirty one", x.next(4), 4);
        Desk.due("no dirty one", x.next(1), 0);
        Desk.due("nothing is done", x.about(3), 5);
    }

    private static void entries() {
        LargePages x = Desk.with(32, 22);
        Desk.due("none there", x.entries(0), 0);
        Desk.touch(x, 0, 0, 16);
        Desk.touch(x, 0, 16, 6);
        Desk.touch(x, 1, 20, 2);
        Desk.due("one of 16, one of 4, two", x.entries(0), 4);
        Desk.due("two", x.entries(1), 2);
        int[] sizes = {1, 3, 4, 5, 15, 16, 17, 20, 31, 32};
        int[] ideals = {1, 3, 1, 2, 6, 1, 2, 2, 7, 2};
        for (int i = 0; i < sizes.length; i++) {
            Desk.due("ideal of " + sizes[i], Desk.with(sizes[i]).ideal(0), ideals[i]);
        }
        Desk.due("pages(0, 17, 1)", x.pages(0, 17, 1), 1);
        Desk.due("pages(0, 22, 1)", x.pages(0, 22, 1), 0);
        Desk.due("pages(0, 22, 4)", x.pages(0, 22, 4), 2);
        Desk.due("pages(0, 22, 16)", x.pages(0, 22, 16), 6);
        Desk.due("pages(1, 21, 16)", x.pages(1, 21, 16), 2);
        Desk.due("pages(1, 3, 16)", x.pages(1, 3, 16), 0);
        Desk.due("pages(1, 22, 1)", x.pages(1, 22, 1), -1);
        Desk.due("reach", x.reach(), 20);
        for (int odd : ODD) {
            Desk.due("entries(" + odd + ")", x.entries(odd), -1);
            Desk.due("ideal(" + odd + ")", x.ideal(odd), -1);
            Desk.due("pages(" + odd + ", 0, 1)", x.pages(odd, 0, 1), -1);
            Desk.due("pages(0, " + odd + ", 1)", x.pages(0, odd, 1), -1);
            Desk.due("pages(0, 0, " + odd + ")", x.pages(0, 0, odd), -1);
        }
        Desk.due("entries(2)", x.entries(2), -1);
        Desk.due("ideal(2)", x.ideal(2), -1);
        Desk.due("pages(0, 0, 2)", x.pages(0, 0, 2), -1);
        Desk.due("pages(0, 0, 0)", x.pages(0, 0, 0), -1);
    }

    private static void holes() {
        LargePages x = Desk.with(32, 32, 32, 3);
        x.touch(3, 0);
        Desk.due("holes(16)", x.holes(16), 3);
        Desk.due("holes(4)", x.holes(4), 15);
        Desk.due("holes(1)", x.holes(1), 63);
        Desk.due("spread", x.spread(), 15);
        x.touch(0, 0);
        x.touch(0, 16);
        x.touch(1, 0);
        Desk.due("holes(16)", x.holes(16), 0);
        Desk.due("spread by 4", x.spread(), 3);
        x.touch(1, 16);
        x.touch(1, 20);
        x.touch(1, 24);
        Desk.due("holes(4)", x.holes(4), 0);
        Desk.due("holes(1)", x.holes(1), 3);
        Desk.due("spread by 1", x.spread(), 0);
        LargePages y = Desk.with(32, 32);
        y.touch(0, 0);
        y.touch(0, 16);
        y.touch(1, 0);
        Desk.due("one of 16", y.holes(16), 1);
        Desk.due("spread", y.spread(), 0);
        Desk.law(y, "wants 1;");
        y.touch(1, 16);
        y.touch(1, 17);
        Desk.due("three of 4 and two", y.spread(), 2);
        x.touch(3, 1);
        x.touch(3, 2);
        x.touch(1, 28);
        Desk.due("spread", x.spread(), x.is(3) - 4 * x.holes(4));
        for (int odd : ODD) {
            Desk.due("holes(" + odd + ")", x.holes(odd), -1);
        }
        for (int odd : new int[] {-1, 0, 2, 8}) {
            Desk.due("holes(" + odd + ")", x.holes(odd), -1);
        }
    }

    private static void values() {
        LargePages x = Desk.with(3, 5);
        x.write(0, 0, 99);
        x.write(0, 1, 98);
        x.write(0, 2, 97);
        Desk.due("digest", x.digest(0), ((99 * 31 + 98) * 31 + 97) % 9973);
        x.write(1, 1, 98);
        x.write(1, 4, 7);
        Desk.due("digest", x.digest(1), (98 * 31 * 31 * 31 + 7) % 9973);
        Desk.due("alike", x.alike(0, 1), 1);
        Desk.due("alike", x.alike(1, 0), 1);
        Desk.due("alike with itself", x.alike(1, 1), 5);
        x.sweep(0);
        x.drop(0);
        Desk.due("absent pages have what is saved", x.digest(0), ((99 * 31 + 98) * 31 + 97) % 9973);
        Desk.due("none is there", x.eldest(0), -1);
        Desk.due("eldest", x.eldest(1), 1);
        x.touch(1, 1);
        Desk.due("eldest", x.eldest(1), 4);
        LargePages y = Desk.with(3);
        y.touch(0, 0);
        y.touch(0, 2);
        Desk.due("eldest", y.eldest(0), 0);
        for (int odd : ODD) {
            Desk.due("digest(" + odd + ")", x.digest(odd), -1);
            Desk.due("alike(" + odd + ", 0)", x.alike(odd, 0), -1);
            Desk.due("alike(0, " + odd + ")", x.alike(0, odd), -1);
            Desk.due("eldest(" + odd + ")", x.eldest(odd), -1);
        }
        Desk.due("digest(2)", x.digest(2), -1);
        Desk.due("digest(-1)", x.digest(-1), -1);
        Desk.due("alike(0, 2)", x.alike(0, 2), -1);
        Desk.due("eldest(2)", x.eldest(2), -1);
    }

    private static void bits() {
        LargePages x = Desk.with(32);
        x.write(0, 31, 4);
        x.touch(0, 0);
        Desk.due("dirty", x.dirty(0), 1L << 31);
        Desk.due("there", x.there(0), 1L << 31 | 1);
        for (int odd : ODD) {
            Desk.due("dirty(" + odd + ")", x.dirty(odd), -1);
            Desk.due("there(" + odd + ")", x.there(odd), -1);
        }
        Desk.due("dirty(1)", x.dirty(1), -1);
        Desk.due("there(-1)", x.there(-1), -1);
        Desk.write(x, 0, 0, 32, 9);
        Desk.due("dirty", x.dirty(0), 0xFFFFFFFFL);
        Desk.due("there", x.there(0), 0xFFFFFFFFL);
    }

    private static void said() {
        LargePages x = new LargePages();
        Desk.due("without object 0", x.said(0, 1), -2);
        Desk.due("none", x.said(-1, 77), 0);
        x.object(20);
        Desk.text(x, "wants page;");
        Desk.text(x, "spares 1;");
        Desk.text(x, "wants 4;");
        Desk.due("nothing is said: all", x.whose(), 7);
        Desk.due("said(4, 4)", x.said(4, 4), 1);
        Desk.due("whose", x.whose(), 5);
        Desk.due("said(0, 1)", x.said(0, 1), 2);
        Desk.due("whose", x.whose(), 1);
        Desk.due("said(19, 16)", x.said(19, 16), 3);
        Desk.due("whose", x.whose(), 1);
        Desk.due("about(4)", x.about(4), 3);
        Desk.due("said(0, 0)", x.said(0, 0), -2);
        Desk.due("said(0, 17)", x.said(0, 17), -2);
        Desk.due("said(20, 1)", x.said(20, 1), -2);
        for (int odd : ODD) {
            Desk.due("said(" + odd + ", 1)", x.said(odd, 1), -2);
            Desk.due("said(0, " + odd + ")", x.said(0, odd), -2);
        }
        for (int i = 4; i <= 8; i++) {
            Desk.due("said", x.said(5, 16), i);
        }
        Desk.due("a ninth", x.said(5, 16), -2);
        Desk.due("whose", x.whose(), 0);
        Desk.due("none any more", x.said(-1, 0), 0);
        Desk.due("said(5, 16)", x.said(5, 16), 1);
        Desk.due("a text without wants", x.whose(), 2);
        x.said(-1, 0);
        Desk.text(x, "wants has 0;");
        x.said(0, 2);
        Desk.due("whose", x.whose(), 0);
        x.touch(0, 0);
        x.touch(0, 9);
        Desk.due("as now", x.whose(), 8);
        LargePages y = Desk.with(9, 5);
        Desk.text(y, "wants size+number;");
        y.said(2, 9);
        Desk.due("of object 0", y.whose(), 1);
        Desk.due("it need not rule", x.about(2), -1);
    }

    private static void image() {
        LargePages x = new LargePages();
        x.object(32);
        Desk.text(x, "wants 1;");
        x.by(0);
        x.write(0, 5, 50);
        x.copy(0, 5, 0, 6);
        x.sweep(0);
        x.day(4);
        x.said(1, 1);
        Desk.due("back", x.back(), 0);
        fresh(x);
        x.object(32);
        Desk.due("an object is as at first", x.page(0, 5, 3), 0);
        Desk.text(x, "wants 4;");
        x.by(0);
        x.said(3, 4);
        x.write(0, 5, 50);
        x.copy(0, 5, 0, 6);
        Desk.due("image", x.image(), 4);
        x.undo();
        x.undo();
        x.object(8);
        x.by(-1);
        x.said(3, 4);
        Desk.text(x, "wants 5;");
        x.day(40);
        Desk.feed(x, "day");
        Desk.due("back", x.back(), 4);
        Desk.due("objects", x.about(0), 1);
        Desk.due("texts", x.about(1), 1);
        Desk.due("the text", x.about(2), 0);
        Desk.due("steps", x.about(3), 2);
        Desk.due("said", x.about(4), 1);
        Desk.due("the tape", x.about(5), 3);
        Desk.due("day", x.is(2), 0);
        Desk.due("X", x.is(1), 499);
        Desk.due("value", x.page(0, 6, 2), 50);
        Desk.due("let", x.let(-1), 2);
        Desk.due("book", x.book(-1, 0), 1);
        Desk.due("the size", x.ideal(0), 2);
        Desk.due("the law", x.wants(0, 0), 4);
        Desk.due("what is said", x.whose(), 1);
        Desk.due("no more of the object told since", x.page(1, 0, 0), -2);
        Desk.due("its steps can be taken back", x.undo(), 1);
        Desk.due("its steps can be taken back", x.page(0, 6, 2), 0);
        Desk.due("its steps can be taken back", x.undo(), 0);
        Desk.due("it stays", x.back(), 4);
        Desk.due("it stays", x.about(3), 2);
        x.undo();
        Desk.due("an image behind a step taken back", x.image(), 1);
        x.day(40);
        x.back();
        Desk.due("steps", x.about(3), 1);
        Desk.due("undo", x.undo(), 0);
        Desk.due("there", x.there(0), 0);
    }

    /** What is told behind the image does not come through it. */
    private static void imageOfWhatIsTold() {
        LargePages x = new LargePages();
        x.image();
        x.object(5);
        Desk.text(x, "wants 3;");
        x.by(0);
        x.said(4, 3);
        x.back();
        Desk.due("object", x.object(32), 0);
        Desk.due("its size", x.ideal(0), 2);
        Desk.due("text", Desk.text(x, "wants 7;"), 0);
        x.by(0);
        Desk.due("its law", x.wants(0, 9), 7);
        x.said(9, 7);
        Desk.due("whose", x.whose(), 1);
        x.image();
        x.back();
        Desk.text(x, "wants 8;");
        x.by(1);
        x.said(-1, 0);
        x.said(1, 8);
        Desk.due("whose", x.whose(), 2);
        x.back();
        Desk.due("said", x.about(4), 1);
        Desk.due("whose", x.whose(), 1);
        Desk.due("wants", x.wants(0, 9), 7);
        Desk.text(x, "wants page;");
        x.said(-1, 0);
        x.said(3, 3);
        x.image();
        x.said(-1, 0);
        x.said(5, 3);
        Desk.due("whose", x.whose(), 0);
        x.back();
        Desk.due("the pages that were said", x.whose(), 2);
        Desk.due("another size", x.object(3), 1);
        x.back();
        Desk.due("another size", x.object(20), 1);
        Desk.due("its size", x.ideal(1), 2);
        for (int i = 0; i < 40; i++) {
            x.touch(0, i % 32);
        }
        x.image();
        Desk.due("steps", x.about(3), 30);
        x.drop(0);
        x.drop(1);
        x.back();
        for (int i = 29; i >= 0; i--) {
            Desk.due("undo", x.undo(), i);
            Desk.due("time", x.is(0), 10 + i);
        }
    }

    private static void about() {
        LargePages x = Desk.with(4, 5);
        Desk.due("about(0)", x.about(0), 2);
        Desk.due("about(6)", x.about(6), -2);
        Desk.due("about(-1)", x.about(-1), -2);
        for (int odd : ODD) {
            Desk.due("about(" + odd + ")", x.about(odd), -2);
        }
    }

    /** Whatever is asked, nothing is done. */
    private static void asking() {
        LargePages x = Desk.with(32, 32, 32);
        x.years(77, 40);
        x.years(78, 40);
        int[] ahead = digestOf(x);
        for (int a = -3; a < 70; a++) {
            x.frame(a);
            x.let(a);
            x.is(a);
            x.victim(a);
            x.next(a);
            x.entries(a);
            x.ideal(a);
            x.holes(a);
            x.digest(a);
            x.eldest(a);
            x.dirty(a);
            x.there(a);
            x.spares(a);
            x.ledger(a);
            x.about(a);
            x.fault(a);
            for (int b = -3; b < 35; b++) {
                x.reserved(a, b);
                x.book(a, b);
                x.foretold(a, b);
                x.alike(a, b);
                x.wants(a, b);
                x.would(a, b, 0);
                x.would(a, b, 1);
                x.pages(a, b, 16);
                x.page(a, b, 0);
            }
        }
        x.reach();
        x.spread();
        x.sound();
        x.whose();
        int[] behind = digestOf(x);
        for (int i = 0; i < ahead.length; i++) {
            Desk.due("figure " + i, behind[i], ahead[i]);
        }
    }

    private static int[] digestOf(LargePages x) {
        int sum = 0;
        for (int o = 0; o < 3; o++) {
            for (int p = 0; p < 32; p++) {
                for (int what = 0; what < 6; what++) {
                    sum = sum * 31 + x.page(o, p, what);
                }
            }
        }
        for (int i = 0; i < x.reserved(-1, 0); i++) {
            for (int what = 0; what < 6; what++) {
                sum = sum * 31 + x.reserved(i, what);
            }
        }
        for (int i = 0; i < x.book(-1, 0); i++) {
            for (int what = 0; what < 4; what++) {
                sum = sum * 31 + x.book(i, what);
            }
        }
        return new int[] {sum, x.is(0), x.is(1), x.is(2), x.is(3), x.is(4), x.about(3), x.let(-1)};
    }
}
