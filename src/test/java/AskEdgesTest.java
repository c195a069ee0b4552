import java.io.IOException;

/** The boundary cases of promises 18 to 39 and 44 to 47 and of the terms III and V, sentence by sentence. */
public final class AskEdgesTest {
    public static void main(String[] args) throws IOException {
        pages();
        frames();
        reservations();
        lettingGo();
        figures();
        book();
        foretold();
        would();
        victims();
        next();
        entries();
        ideals();
        map();
        holes();
        reach();
        spread();
        digests();
        alike();
        eldest();
        bits();
        sound();
        ledger();
        images();
        back();
        about();
        nothingIsDone();
        Edge.close("AskEdgesTest");
    }

    private static void row(String what, int[] got, int... due) {
        for (int i = 0; i < due.length; i++) {
            Desk.due(what + " " + i, got[i], due[i]);
        }
    }

    private static int[] page(LargePages x, int object, int page) {
        int[] row = new int[6];
        for (int what = 0; what < 6; what++) {
            row[what] = x.page(object, page, what);
        }
        return row;
    }

    private static void pages() {
        Edge.promise(18, "Of a PAGE: 0 its FRAME (NONE: ABSENT), 1 whether it is DIRTY (1, 0), 2 VALUE, 3 what is SAVED, 4 LEVEL, 5 USED (NONE: never).");
        LargePages x = Desk.with(32, 32, 32, 32);
        row("never used", page(x, 0, 31), -1, 0, 0, 0, 0, -1);
        x.touch(0, 0);
        x.touch(1, 0);
        x.touch(2, 0);
        x.write(3, 31, 99);
        row("the first frame, used at 0", page(x, 0, 0), 0, 0, 0, 0, 1, 0);
        row("the last frame, dirty", page(x, 3, 31), 63, 1, 99, 0, 1, 3);
        row("reserved, but absent", page(x, 3, 30), -1, 0, 0, 0, 0, -1);
        x.sweep(3);
        row("saved", page(x, 3, 31), 63, 0, 99, 99, 1, 3);
        x.write(3, 31, 0);
        row("another value than is saved", page(x, 3, 31), 63, 1, 0, 99, 1, 4);
        x.drop(3);
        row("absent again", page(x, 3, 31), -1, 0, 99, 99, 0, 4);
        Desk.touch(x, 0, 0, 4);
        Desk.due("level 4", x.page(0, 3, 4), 4);
        Desk.touch(x, 0, 4, 12);
        Desk.due("level 16", x.page(0, 3, 4), 16);

        Edge.promise(18, "-2 for others.");
        for (int odd : Edge.beside(0, 3)) {
            Desk.due("page(" + odd + ", 0, 0)", x.page(odd, 0, 0), -2);
        }
        for (int odd : Edge.beside(0, 31)) {
            Desk.due("page(0, " + odd + ", 0)", x.page(0, odd, 0), -2);
        }
        for (int odd : Edge.beside(0, 5)) {
            Desk.due("page(0, 0, " + odd + ")", x.page(0, 0, odd), -2);
        }
        Desk.due("behind the last page", Desk.with(5).page(0, 5, 4), -2);
        Desk.due("without objects", new LargePages().page(0, 0, 0), -2);
    }

    private static void frames() {
        Edge.promise(19, "Of a FRAME: 32 times the OBJECT, and the PAGE that is in it; NONE: FREE; -2: RESERVED, but empty.");
        LargePages x = Desk.with(1, 32, 1, 32);
        x.touch(0, 0);
        x.touch(1, 31);
        x.touch(3, 0);
        Desk.due("page 0 of object 0", x.frame(0), 0);
        Desk.due("free", x.frame(1), -1);
        Desk.due("free", x.frame(15), -1);
        Desk.due("reserved, but empty", x.frame(16), -2);
        Desk.due("reserved, but empty", x.frame(30), -2);
        Desk.due("page 31 of object 1", x.frame(31), 63);
        Desk.due("page 0 of object 3", x.frame(32), 96);
        Desk.due("reserved, but empty", x.frame(47), -2);
        Desk.due("free", x.frame(48), -1);
        Desk.due("the last is free", x.frame(63), -1);
        x.touch(3, 31);
        Desk.due("page 31 of object 3", x.frame(63), 127);

        Edge.promise(19, "-3 for others.");
        for (int odd : Edge.beside(0, 63)) {
            Desk.due("frame(" + odd + ")", x.frame(odd), -3);
        }
    }

    private static void reservations() {
        Edge.promise(20, "RESERVATIONS by their first FRAMES: how many (i NONE)");
        LargePages x = Desk.with(32, 32, 32, 32);
        Desk.due("none", x.reserved(-1, 0), 0);
        x.touch(3, 31);
        Desk.due("one", x.reserved(-1, 5), 1);
        Desk.law(x, "wants 1;");
        Desk.touch(x, 0, 0, 32);
        Desk.touch(x, 1, 0, 16);
        Desk.due("one of 16 and all other frames", x.reserved(-1, 0), 49);
        LargePages y = Desk.with(32, 32);
        Desk.law(y, "wants 1;");
        Desk.touch(y, 1, 0, 32);
        Desk.touch(y, 0, 0, 32);
        Desk.due("as many as frames", y.reserved(-1, 0), 64);

        Edge.promise(20, "the i-th: 0 its OBJECT, 1 its first PAGE, 2 how many, 3 its first FRAME, 4 the TIME of its latest FAULT, 5 how many PAGES are there.");
        Desk.reservation(x, 0, 3, 16, 16, 0, 0, 1);
        Desk.reservation(x, 1, 0, 0, 1, 16, 1, 1);
        Desk.reservation(x, 48, 1, 15, 1, 63, 48, 1);
        Desk.reservation(y, 0, 1, 0, 1, 0, 0, 1);
        Desk.reservation(y, 63, 0, 31, 1, 63, 63, 1);

        Edge.promise(20, "-2 if there is none such");
        Desk.due("behind the last", x.reserved(49, 0), -2);
        Desk.due("behind the last", y.reserved(64, 0), -2);
        Desk.due("of none", new LargePages().reserved(0, 0), -2);

        Edge.promise(20, "and for others.");
        for (int odd : Edge.beside(-1, 63)) {
            Desk.due("reserved(" + odd + ", 0)", y.reserved(odd, 0), -2);
        }
        for (int odd : Edge.beside(0, 5)) {
            Desk.due("reserved(0, " + odd + ")", y.reserved(0, odd), -2);
        }
    }

    private static void lettingGo() {
        Edge.promise(21, "LET GO: how many FRAMES (i NONE), the i-th.");
        LargePages x = Edge.claimed();
        Desk.due("nobody yet", x.let(-1), 0);
        x.copy(0, 0, 1, 31);
        Desk.due("two", x.let(-1), 2);
        Desk.due("the latest first", x.let(0), 63);
        Desk.due("then the first", x.let(1), 0);
        x.touch(0, 1);
        x.sweep(0);
        Desk.due("it stays", x.let(-1), 2);
        Desk.law(x, "spares 0;");
        x.copy(1, 31, 2, 0);
        Desk.due("just the first was pinned", x.let(-1), 1);
        Desk.due("its frame", x.let(0), 63);

        Edge.promise(21, "-2 if there is none such");
        Desk.due("one alone", x.let(1), -2);
        x.copy(2, 0, 0, 0);
        Desk.due("nobody", x.let(-1), 0);
        Desk.due("nobody", x.let(0), -2);
        x.copy(0, 0, 0, 1);
        Desk.due("two alone", x.let(2), -2);

        Edge.promise(21, "and for others.");
        for (int odd : Edge.beside(-1, 1)) {
            Desk.due("let(" + odd + ")", x.let(odd), -2);
        }
    }

    private static void figures() {
        Edge.promise(22, "0 TIME, 1 X, 2 DAY, 3 FREE FRAMES, 4 how often something was SAVED.");
        LargePages x = Edge.packed();
        int[] is = {64, 499, 0, 0, 0};
        for (int what = 0; what < is.length; what++) {
            Desk.due("is(" + what + ")", x.is(what), is[what]);
        }
        x.write(0, 0, 1);
        x.sweep(0);
        x.write(0, 0, 2);
        x.sweep(0);
        Desk.due("the same page twice", x.is(4), 2);
        x.undo();
        Desk.due("taken back", x.is(4), 1);

        Edge.promise(22, "-2 for others.");
        for (int odd : Edge.beside(0, 4)) {
            Desk.due("is(" + odd + ")", x.is(odd), -2);
        }
    }

    private static void book() {
        Edge.promise(23, "BOOK: how many (i NONE)");
        LargePages x = Desk.with(32, 32);
        Desk.due("none", x.book(-1, 0), 0);
        Desk.law(x, "wants 1;");
        for (int i = 1; i <= 24; i++) {
            x.touch(0, i);
        }
        Desk.due("24", x.book(-1, 3), 24);
        x.touch(1, 0);
        Desk.due("25", x.book(-1, 0), 25);
        x.touch(1, 1);
        Desk.due("25 at most", x.book(-1, 0), 25);
        for (int i = 0; i < 23; i++) {
            Desk.line(x, i, i + 1, 0, 0, i + 2);
        }
        Desk.line(x, 23, 24, 0, 1, 0);

        Edge.promise(23, "the i-th, from the eldest on: 0 TIME, 1 what (0 reserved, 1 preempted, 2 promoted, 3 demoted, 4 emptied, 5 dropped), 2 the OBJECT (of emptied: the first FRAME), 3 the first PAGE (of emptied: how many FRAMES; of dropped: 0).");
        Desk.line(x, 0, 1, 0, 0, 2);
        Desk.line(x, 24, 25, 0, 1, 1);
        kinds();

        Edge.promise(23, "-2 if there is none such");
        Desk.due("behind the latest", x.book(25, 0), -2);
        Desk.due("of none", new LargePages().book(0, 0), -2);
        LargePages one = Desk.with(1);
        one.touch(0, 0);
        Desk.due("the only one", one.book(0, 1), 0);
        Desk.due("behind the only one", one.book(1, 1), -2);

        Edge.promise(23, "and for others.");
        for (int odd : Edge.beside(-1, 24)) {
            Desk.due("book(" + odd + ", 0)", x.book(odd, 0), -2);
        }
        for (int odd : Edge.beside(0, 3)) {
            Desk.due("book(0, " + odd + ")", x.book(0, odd), -2);
        }
    }

    private static void kinds() {
        LargePages x = Edge.claimed();
        x.touch(3, 31);
        Desk.line(x, 4, 4, 1, 0, 0);
        Desk.line(x, 5, 4, 0, 3, 28);
        Desk.touch(x, 3, 28, 3);
        Desk.line(x, 6, 7, 2, 3, 28);
        x.write(3, 30, 7);
        Desk.line(x, 7, 9, 3, 3, 28);
        x.drop(3);
        Desk.line(x, 8, 9, 5, 3, 0);
        x.drop(0);
        x.drop(1);
        x.touch(0, 1);
        Desk.touch(x, 3, 16, 16);
        Desk.due("level", x.page(3, 31, 4), 16);
        int lines = x.book(-1, 0);
        Desk.line(x, lines - 2, 25, 2, 3, 28);
        Desk.line(x, lines - 1, 25, 2, 3, 16);
        x.write(3, 31, 9);
        lines = x.book(-1, 0);
        Desk.line(x, lines - 2, 27, 3, 3, 16);
        Desk.line(x, lines - 1, 27, 3, 3, 28);
        x.empty(16);
        lines = x.book(-1, 0);
        Desk.line(x, lines - 1, 27, 4, 0, 16);
        LargePages last = Edge.packed();
        last.touch(0, 0);
        Desk.write(last, 0, 0, 32, 1);
        Desk.write(last, 1, 0, 31, 1);
        Desk.due("the last frame", last.empty(1), 1);
        Desk.line(last, 24, 128, 4, 63, 1);
    }

    private static void foretold() {
        Edge.promise(24, "FORETOLD: 0 FREE FRAMES, 1 RESERVATIONS, 2 ENTRIES of all OBJECTS.");
        Edge.terms("FORETOLD behind n DAYS (1 .. 60; those that can pass), nothing else being done.");
        LargePages x = Desk.with(32, 9, 1, 32);
        for (int n : new int[] {1, 2, 59, 60}) {
            held(x, n, n);
        }
        LargePages last = Edge.onDay(9998);
        last.object(32);
        last.object(32);
        last.touch(0, 0);
        held(last, 1, 1);
        held(last, 2, 1);
        held(last, 60, 1);
        last.day(1);
        held(last, 1, 0);
        held(last, 60, 0);
        LargePages none = new LargePages();
        Desk.due("without objects: free", none.foretold(60, 0), 64);
        Desk.due("without objects: reservations", none.foretold(60, 1), 0);
        Desk.due("without objects: entries", none.foretold(60, 2), 0);

        Edge.promise(24, "NONE for others.");
        for (int odd : Edge.beside(1, 60)) {
            Desk.due("foretold(" + odd + ", 0)", x.foretold(odd, 0), -1);
        }
        for (int odd : Edge.beside(0, 2)) {
            Desk.due("foretold(1, " + odd + ")", x.foretold(1, odd), -1);
        }
    }

    /** What is foretold behind n days is so when the days have passed that can pass. */
    private static void held(LargePages x, int n, int days) {
        String stand = Edge.stand(x);
        int[] told = {x.foretold(n, 0), x.foretold(n, 1), x.foretold(n, 2)};
        Edge.same(x, stand);
        x.image();
        if (days > 0) {
            x.day(days);
        }
        int entries = 0;
        for (int object = 0; object < x.about(0); object++) {
            entries += x.entries(object);
        }
        row("foretold(" + n + ")", told, x.is(3), x.reserved(-1, 0), entries);
        x.back();
    }

    private static void would() {
        Edge.promise(25, "A FAULT: 0 how many PAGES would be RESERVED (0: one is that has it), 1 the FRAME.");
        Edge.terms("A FAULT as it would be now.");
        LargePages x = Desk.with(32, 21, 1);
        fault(x, 0, 31, 16, 15);
        fault(x, 1, 19, 4, 3);
        fault(x, 1, 20, 1, 0);
        fault(x, 2, 0, 1, 0);
        x.touch(0, 0);
        fault(x, 0, 15, 0, 15);
        fault(x, 0, 16, 16, 16);
        LargePages full = Edge.claimed();
        fault(full, 2, 31, 4, 7);
        fault(full, 0, 15, 0, 15);
        fault(full, 0, 31, 0, 31);
        fault(full, 1, 15, 0, 47);
        fault(full, 1, 17, 0, 49);

        Edge.promise(25, "NONE: it is there");
        Desk.due("it is there", x.would(0, 0, 0), -1);
        Desk.due("it is there", x.would(0, 0, 1), -1);

        Edge.promise(25, "there is no room");
        LargePages y = Edge.packed();
        Desk.due("no room", y.would(2, 0, 0), -1);
        Desk.due("no room", y.would(2, 31, 1), -1);
        Desk.law(full, "spares 0;");
        Desk.due("all are spared", full.would(2, 31, 0), -1);

        Edge.promise(25, "and for others.");
        for (int odd : Edge.beside(0, 2)) {
            Desk.due("would(" + odd + ", 0, 0)", x.would(odd, 0, 0), -1);
        }
        for (int odd : Edge.beside(0, 20)) {
            Desk.due("would(1, " + odd + ", 0)", x.would(1, odd, 0), -1);
        }
        for (int odd : Edge.beside(0, 1)) {
            Desk.due("would(0, 1, " + odd + ")", x.would(0, 1, odd), -1);
        }
    }

    /** What would be is so when the page is touched. */
    private static void fault(LargePages x, int object, int page, int reserved, int frame) {
        String stand = Edge.stand(x);
        Desk.due("would(" + object + ", " + page + ", 0)", x.would(object, page, 0), reserved);
        Desk.due("would(" + object + ", " + page + ", 1)", x.would(object, page, 1), frame);
        Edge.same(x, stand);
        Desk.due("touch(" + object + ", " + page + ")", x.touch(object, page), frame);
        x.undo();
        Edge.same(x, stand);
    }

    private static void victims() {
        Edge.promise(26, "VICTIM: its first FRAME.");
        Edge.terms("VICTIM of a PREEMPTION for so many FRAMES now.");
        LargePages x = Edge.claimed();
        Desk.due("the first frame", x.victim(4), 0);
        x.touch(0, 1);
        x.touch(0, 17);
        x.touch(1, 1);
        Desk.due("the last reservation", x.victim(4), 48);
        Desk.due("for one", x.victim(1), 48);

        Edge.promise(26, "NONE: none");
        Desk.due("for 16 a page is in the way", x.victim(16), -1);
        LargePages none = Desk.with(1, 4);
        Desk.due("nothing is reserved", none.victim(1), -1);
        none.touch(0, 0);
        Desk.due("all is there", none.victim(1), -1);
        none.touch(1, 0);
        Desk.due("of 4, for 1", none.victim(1), 4);
        Desk.due("of 4, for 4", none.victim(4), -1);
        Desk.due("all frames have pages", Edge.packed().victim(1), -1);

        Edge.promise(26, "and for others (1, 4, 16).");
        for (int odd : Edge.noBlocks()) {
            Desk.due("victim(" + odd + ")", x.victim(odd), -1);
        }
    }

    private static void next() {
        Edge.promise(27, "EMPTIED NEXT: the first FRAME.");
        Edge.terms("EMPTIED NEXT.");
        LargePages x = Edge.packed();
        row("the first", new int[] {x.next(1), x.next(4), x.next(16)}, 0, 0, 0);
        Desk.touch(x, 0, 0, 32);
        Desk.touch(x, 1, 0, 31);
        row("the last, where the greatest is least", new int[] {x.next(1), x.next(4), x.next(16)}, 63, 0, 0);
        Desk.write(x, 0, 0, 32, 5);
        Desk.write(x, 1, 0, 16, 5);
        row("the last of all sizes", new int[] {x.next(1), x.next(4), x.next(16)}, 63, 48, 48);

        Edge.promise(27, "NONE: none");
        x.write(1, 31, 5);
        Desk.due("a dirty one in it", x.next(16), -1);
        Desk.due("beside it", x.next(4), 48);
        Desk.write(x, 1, 16, 15, 5);
        row("all are dirty", new int[] {x.next(1), x.next(4), x.next(16)}, -1, -1, -1);
        LargePages none = Desk.with(32);
        row("all are free", new int[] {none.next(1), none.next(4), none.next(16)}, -1, -1, -1);

        Edge.promise(27, "and for others (1, 4, 16).");
        LargePages y = Edge.packed();
        for (int odd : Edge.noBlocks()) {
            Desk.due("next(" + odd + ")", y.next(odd), -1);
        }
    }

    private static void entries() {
        Edge.promise(28, "ENTRIES.");
        Edge.terms("ENTRIES of an OBJECT: as many as there are BLOCKS of LEVEL 16, of 4 and PAGES of 1.");
        LargePages x = Desk.with(32, 1);
        Desk.due("nothing is there", x.entries(0), 0);
        Desk.touch(x, 0, 0, 15);
        Desk.due("three of 4 and three", x.entries(0), 6);
        Desk.touch(x, 0, 15, 1);
        Desk.due("one of 16", x.entries(0), 1);
        Desk.touch(x, 0, 16, 16);
        Desk.due("two of 16", x.entries(0), 2);
        x.write(0, 31, 1);
        Desk.due("one of 16, three of 4 and four", x.entries(0), 8);
        x.touch(1, 0);
        Desk.due("of its own", x.entries(1), 1);

        Edge.promise(28, "NONE for others.");
        for (int odd : Edge.beside(0, 1)) {
            Desk.due("entries(" + odd + ")", x.entries(odd), -1);
        }
    }

    private static void ideals() {
        Edge.promise(29, "IDEAL: how many.");
        Edge.terms("IDEAL: the fewest by which all its PAGES would be told, all being there, in BLOCKS of 16, of 4 and of 1.");
        for (int size = 1; size <= 32; size++) {
            int left = size;
            int count = 0;
            for (int n : new int[] {16, 4, 1}) {
                for (; left >= n; left -= n) {
                    count++;
                }
            }
            LargePages x = Desk.with(size);
            Desk.due("ideal of " + size, x.ideal(0), count);
            Desk.touch(x, 0, 0, size);
            Desk.due("it is reached", x.entries(0), count);
        }

        Edge.promise(29, "NONE for others.");
        LargePages x = Desk.with(16, 3);
        for (int odd : Edge.beside(0, 1)) {
            Desk.due("ideal(" + odd + ")", x.ideal(odd), -1);
        }
    }

    private static void map() {
        Edge.promise(30, "THE MAP: how many are there.");
        Edge.terms("THE MAP: how many PAGES of the BLOCK of n with that PAGE are there.");
        LargePages x = Desk.with(22, 32);
        for (int page : new int[] {0, 3, 4, 15, 16, 21}) {
            x.touch(0, page);
        }
        int[] pages = {0, 1, 3, 4, 8, 15, 16, 19, 20, 21};
        int[][] due = {{1, 2, 4}, {0, 2, 4}, {1, 2, 4}, {1, 1, 4}, {0, 0, 4}, {1, 1, 4}, {1, 1, 2}, {0, 1, 2}, {0, 1, 2}, {1, 1, 2}};
        for (int i = 0; i < pages.length; i++) {
            row("pages of " + pages[i], new int[] {x.pages(0, pages[i], 1), x.pages(0, pages[i], 4), x.pages(0, pages[i], 16)}, due[i]);
        }
        Desk.due("none of another", x.pages(1, 0, 16), 0);
        Desk.touch(x, 1, 16, 16);
        Desk.due("all to the last", x.pages(1, 31, 16), 16);

        Edge.promise(30, "NONE for others (1, 4, 16).");
        for (int odd : Edge.noBlocks()) {
            Desk.due("pages(0, 0, " + odd + ")", x.pages(0, 0, odd), -1);
        }
        for (int odd : Edge.beside(0, 21)) {
            Desk.due("pages(0, " + odd + ", 1)", x.pages(0, odd, 1), -1);
        }
        for (int odd : Edge.beside(0, 1)) {
            Desk.due("pages(" + odd + ", 0, 1)", x.pages(odd, 0, 1), -1);
        }
    }

    private static void holes() {
        Edge.promise(31, "HOLES: how many.");
        Edge.terms("HOLES: BLOCKS of so many FREE FRAMES.");
        LargePages x = Desk.with(32, 32, 1);
        row("all are free", new int[] {x.holes(1), x.holes(4), x.holes(16)}, 64, 16, 4);
        x.touch(2, 0);
        row("one is not", new int[] {x.holes(1), x.holes(4), x.holes(16)}, 63, 15, 3);
        x.touch(0, 0);
        row("reserved ones are not free", new int[] {x.holes(1), x.holes(4), x.holes(16)}, 47, 11, 2);
        LargePages y = Edge.packed();
        row("none", new int[] {y.holes(1), y.holes(4), y.holes(16)}, 0, 0, 0);
        y.empty(1);
        row("one", new int[] {y.holes(1), y.holes(4), y.holes(16)}, 1, 0, 0);

        Edge.promise(31, "NONE for others (1, 4, 16).");
        for (int odd : Edge.noBlocks()) {
            Desk.due("holes(" + odd + ")", x.holes(odd), -1);
        }
    }

    private static void reach() {
        Edge.promise(32, "REACH: how many PAGES.");
        Edge.terms("REACH: PAGES of LEVEL 4 or 16.");
        LargePages x = Desk.with(32, 32);
        Desk.due("none", x.reach(), 0);
        Desk.touch(x, 0, 0, 3);
        Desk.due("three of level 1", x.reach(), 0);
        Desk.touch(x, 0, 3, 1);
        Desk.due("four", x.reach(), 4);
        Desk.touch(x, 0, 4, 28);
        Desk.due("two of 16", x.reach(), 32);
        Desk.touch(x, 1, 0, 32);
        Desk.due("all frames", x.reach(), 64);
        x.write(1, 31, 1);
        Desk.due("less four", x.reach(), 60);
        Desk.due("without objects", new LargePages().reach(), 0);
        LargePages y = Desk.with(4, 4, 4, 4);
        Desk.touch(y, 3, 0, 4);
        Desk.touch(y, 0, 0, 4);
        Desk.due("of four objects", y.reach(), 8);
    }

    private static void spread() {
        Edge.promise(33, "SPREAD.");
        Edge.terms("SPREAD: FREE FRAMES less those of the largest HOLES (of 16, if there are any, else of 4, else of 1).");
        LargePages x = Desk.with(1, 32, 32);
        Desk.due("all are free", x.spread(), 0);
        x.touch(0, 0);
        Desk.due("three of 16 and fifteen", x.spread(), 15);
        Desk.law(x, "wants 1;");
        Desk.touch(x, 1, 0, 14);
        Desk.due("three of 16 and one", x.spread(), 1);
        Desk.touch(x, 1, 14, 1);
        Desk.due("three of 16", x.spread(), 0);
        Desk.touch(x, 1, 15, 17);
        Desk.touch(x, 2, 0, 16);
        Desk.due("fifteen: three of 4 and three", x.spread(), 3);
        Desk.touch(x, 2, 16, 11);
        Desk.due("one of 4", x.spread(), 0);
        Desk.touch(x, 2, 27, 1);
        Desk.due("three of 1", x.spread(), 0);
        Desk.due("none is free", Edge.packed().spread(), 0);
        LargePages y = Desk.with(32, 32);
        Desk.law(y, "wants 1;");
        Desk.touch(y, 0, 0, 32);
        Desk.touch(y, 1, 0, 12);
        Desk.due("one of 16 and four", y.spread(), 4);
        Desk.touch(y, 1, 12, 15);
        Desk.due("one of 4 and one", y.spread(), 1);
    }

    private static void digests() {
        Edge.promise(34, "THE DIGEST.");
        Edge.terms("from 0 on, PAGE by PAGE: 31 times it and VALUE, mod 9973.");
        LargePages x = Desk.with(32, 1, 3);
        Desk.due("of zeros", x.digest(0), 0);
        int sum = 0;
        for (int page = 0; page < 32; page++) {
            x.write(0, page, 99 - page);
            sum = (31 * sum + 99 - page) % 9973;
        }
        Desk.due("of 32 pages", x.digest(0), sum);
        x.write(1, 0, 99);
        Desk.due("of one", x.digest(1), 99);
        // 31 * 31 * 10 + 31 * 11 + 22 is 9973.
        x.write(2, 0, 10);
        x.write(2, 1, 11);
        x.write(2, 2, 21);
        Desk.due("one less", x.digest(2), 9972);
        x.write(2, 2, 22);
        Desk.due("just round", x.digest(2), 0);
        x.write(2, 2, 23);
        Desk.due("one more", x.digest(2), 1);

        Edge.promise(34, "NONE for others.");
        for (int odd : Edge.beside(0, 2)) {
            Desk.due("digest(" + odd + ")", x.digest(odd), -1);
        }
    }

    private static void alike() {
        Edge.promise(35, "ALIKE: how many PAGES.");
        Edge.terms("ALIKE: PAGES of like numbers of two OBJECTS of like VALUE.");
        LargePages x = Desk.with(5, 32, 5);
        Desk.due("the smaller one's", x.alike(0, 1), 5);
        Desk.due("the other way", x.alike(1, 0), 5);
        Desk.due("with itself", x.alike(1, 1), 32);
        x.write(0, 4, 7);
        Desk.due("the last page is unlike", x.alike(0, 2), 4);
        x.write(2, 4, 7);
        Desk.due("alike again", x.alike(0, 2), 5);
        x.sweep(2);
        x.drop(2);
        Desk.due("absent ones have their values", x.alike(2, 0), 5);
        Desk.write(x, 0, 0, 5, 8);
        Desk.due("none", x.alike(0, 2), 0);
        Desk.due("of the others", x.alike(1, 2), 4);
        Desk.due("of the others", x.alike(2, 1), 4);

        Edge.promise(35, "NONE for others.");
        for (int odd : Edge.beside(0, 2)) {
            Desk.due("alike(" + odd + ", 0)", x.alike(odd, 0), -1);
            Desk.due("alike(0, " + odd + ")", x.alike(0, odd), -1);
        }
    }

    private static void eldest() {
        Edge.promise(36, "ELDEST: the PAGE.");
        Edge.terms("ELDEST: the PAGE that is there USED longest ago; of like ones the lowest; none.");
        LargePages x = Desk.with(32, 32);
        x.touch(0, 31);
        Desk.due("the only one", x.eldest(0), 31);
        x.touch(0, 0);
        Desk.due("used longest ago", x.eldest(0), 31);
        x.touch(0, 31);
        Desk.due("used anew", x.eldest(0), 0);

        Edge.promise(36, "NONE: none");
        Desk.due("none is there", x.eldest(1), -1);
        x.drop(0);
        Desk.due("none is there any more", x.eldest(0), -1);
        x.touch(0, 5);
        Desk.due("absent ones count not", x.eldest(0), 5);
        x.touch(1, 7);
        x.touch(1, 3);
        x.touch(0, 3);
        x.touch(0, 7);
        Desk.due("of the other", x.eldest(1), 7);
        x.touch(1, 7);
        x.touch(0, 3);
        Desk.due("of the other", x.eldest(1), 3);

        Edge.promise(36, "and for others.");
        for (int odd : Edge.beside(0, 1)) {
            Desk.due("eldest(" + odd + ")", x.eldest(odd), -1);
        }
    }

    private static void bits() {
        Edge.promise(37, "DIRTY PAGES (bits).");
        LargePages x = Desk.with(32, 1);
        Desk.due("none", x.dirty(0), 0);
        x.touch(0, 31);
        Desk.due("there, but not dirty", x.dirty(0), 0);
        x.write(0, 31, 1);
        Desk.due("the highest", x.dirty(0), 2147483648L);
        Desk.write(x, 0, 0, 32, 2);
        Desk.due("all", x.dirty(0), 4294967295L);

        Edge.promise(37, "NONE for others.");
        for (int odd : Edge.beside(0, 1)) {
            Desk.due("dirty(" + odd + ")", x.dirty(odd), -1);
        }

        Edge.promise(38, "PAGES that are there (bits).");
        LargePages y = Desk.with(32, 1);
        Desk.due("none", y.there(0), 0);
        y.touch(0, 31);
        Desk.due("the highest", y.there(0), 2147483648L);
        Desk.touch(y, 0, 0, 32);
        Desk.due("all", y.there(0), 4294967295L);
        y.touch(1, 0);
        Desk.due("the only one", y.there(1), 1);

        Edge.promise(38, "NONE for others.");
        for (int odd : Edge.beside(0, 1)) {
            Desk.due("there(" + odd + ")", y.there(odd), -1);
        }
    }

    private static void sound() {
        Edge.promise(39, "SOUND.");
        Edge.terms("SOUND: no FRAME is in two RESERVATIONS, each PAGE that is there is in one, in its FRAME there, and each of LEVEL 4, 16 is in a BLOCK all of that LEVEL, in one RESERVATION, all DIRTY or none.");
        Desk.due("a new object", new LargePages().sound(), true);
        LargePages x = Edge.packed();
        Desk.due("all frames", x.sound(), true);
        x.write(0, 15, 4);
        Desk.due("demoted", x.sound(), true);
        x.empty(4);
        Desk.due("emptied", x.sound(), true);
        x.empty(16);
        x.touch(2, 31);
        x.drop(1);
        x.undo();
        Desk.due("taken back", x.sound(), true);
        for (int seed = 0; seed < 60; seed++) {
            x.years(seed, 40);
            x.write(seed % 2, seed % 32, seed % 3);
            x.copy(seed % 3, seed % 32, (seed + 1) % 3, seed * 7 % 32);
            Desk.due("sound behind years", x.sound(), true);
            Desk.due("so say the answers", levelsHold(x), true);
        }
        x.back();
        Desk.due("back", x.sound(), true);
    }

    /** SOUND, by what page, frame and reserved say. */
    private static boolean levelsHold(LargePages x) {
        for (int object = 0; object < x.about(0); object++) {
            for (int page = 0; page < 32; page++) {
                int level = x.page(object, page, 4);
                int frame = x.page(object, page, 0);
                if ((level == 0) != (frame < 0) || level > 0 && x.frame(frame) != 32 * object + page) {
                    return false;
                }
                int first = level > 0 ? page / level * level : 0;
                for (int i = first; level > 1 && i < first + level; i++) {
                    if (x.page(object, i, 4) != level || x.page(object, i, 1) != x.page(object, page, 1)
                            || x.page(object, i, 0) - i != frame - page) {
                        return false;
                    }
                }
                if (level > 1 && (x.page(object, first, 0) % level != 0 || !inOne(x, object, first, level))) {
                    return false;
                }
            }
        }
        return true;
    }

    private static boolean inOne(LargePages x, int object, int first, int n) {
        for (int i = 0; i < x.reserved(-1, 0); i++) {
            if (x.reserved(i, 0) == object && x.reserved(i, 1) <= first
                    && x.reserved(i, 1) + x.reserved(i, 2) >= first + n) {
                return true;
            }
        }
        return false;
    }

    private static void ledger() {
        Edge.promise(44, "BY THE BOOK.");
        Edge.terms("BY THE BOOK: how many lines there are of a kind.");
        LargePages x = Edge.claimed();
        x.touch(2, 0);
        Desk.touch(x, 2, 1, 3);
        x.write(2, 0, 1);
        x.empty(4);
        x.drop(3);
        row("ledger", new int[] {x.ledger(0), x.ledger(1), x.ledger(2), x.ledger(3), x.ledger(4), x.ledger(5)}, 5, 1, 1, 1, 1, 1);
        for (int i = 0; i < 24; i++) {
            x.drop(3);
        }
        row("the latest 25", new int[] {x.ledger(0), x.ledger(4), x.ledger(5)}, 0, 0, 25);
        Desk.due("none", new LargePages().ledger(0), 0);

        Edge.promise(44, "-2 for others (0 .. 5).");
        for (int odd : Edge.beside(0, 5)) {
            Desk.due("ledger(" + odd + ")", x.ledger(odd), -2);
        }
    }

    private static void images() {
        Edge.promise(45, "THE IMAGE is as all is now: TIME.");
        Edge.terms("AN IMAGE: all as it is, but the tape and the latest FAULT.");
        LargePages x = Edge.packed();
        Desk.due("of a new one", new LargePages().image(), 0);
        Desk.text(x, "wants 3;");
        x.by(0);
        x.said(3, 3);
        x.copy(0, 0, 1, 1);
        Desk.due("image", x.image(), 67);
        String stand = Edge.stand(x);
        Edge.same(x, stand);
        x.years(99, 40);
        x.object(32);
        x.by(-1);
        x.said(-1, 0);
        Desk.due("back", x.back(), 67);
        Edge.same(x, stand);
        x.years(98, 40);
        Desk.due("another image", x.image(), x.is(0));
        stand = Edge.stand(x);
        x.undo();
        x.back();
        Edge.same(x, stand);
        told();
        Desk.feed(x, "day 0;");
        x.image();
        x.text();
        Desk.feed(x, "abc");
        x.back();
        Desk.due("the tape is not in it", x.about(5), 3);
        Desk.due("the latest fault is not in it", x.fault(0), 2);
    }

    /** What is told in the image's time and what is told later are two things. */
    private static void told() {
        LargePages x = Desk.with(20, 3);
        Desk.text(x, "wants page;");
        Desk.text(x, "wants 7;");
        x.by(1);
        x.said(4, 4);
        x.image();
        x.back();
        Desk.due("another size", x.object(5), 2);
        Desk.due("another text", Desk.text(x, "wants 9;"), 2);
        x.by(2);
        x.said(-1, 0);
        x.said(9, 9);
        Desk.due("by them", x.whose(), 5);
        x.back();
        Desk.due("what was said", x.whose(), 1);
        Desk.due("the law", x.wants(0, 0), 7);
        Desk.due("another size in its place", x.object(32), 2);
        Desk.due("it is so", x.ideal(2), 2);
        Desk.due("another text in its place", Desk.text(x, "wants 11;"), 2);
        x.by(2);
        Desk.due("it is so", x.wants(0, 0), 11);
        x.image();
        x.said(5, 5);
        x.said(-1, 0);
        x.said(5, 6);
        x.back();
        Desk.due("the sizes of the image", x.ideal(0) * 100 + x.ideal(1) * 10 + x.ideal(2), 232);
        Desk.due("the law of the image", x.wants(0, 0), 11);
        Desk.due("what was said in it", x.whose(), 1);
    }

    private static void back() {
        Edge.promise(46, "BACK to THE IMAGE (it stays): TIME.");
        Edge.terms("BACK: all is so again.");
        LargePages x = Desk.with(32);
        Desk.touch(x, 0, 0, 32);
        x.image();
        String stand = Edge.stand(x);
        for (int i = 0; i < 3; i++) {
            for (int k = 0; k < 30; k++) {
                x.undo();
            }
            x.day(1 + i);
            Desk.due("back", x.back(), 32);
            Edge.same(x, stand);
        }
        for (int left = 29; left >= 0; left--) {
            Desk.due("its steps can be taken back", x.undo(), left);
        }
        Desk.due("to the third", x.there(0), 3);
        Desk.due("back at once", x.back(), 32);
        Desk.due("back twice", x.back(), 32);
        Edge.same(x, stand);
    }

    private static void about() {
        Edge.promise(47, "0 OBJECTS, 1 TEXTS, 2 THE TEXT (NONE), 3 STEPS that can be taken back, 4 SAID, 5 bytes of the tape.");
        LargePages x = new LargePages();
        row("a new one", new int[] {x.about(0), x.about(1), x.about(2), x.about(3), x.about(4), x.about(5)}, 0, 0, -1, 0, 0, 0);
        for (int i = 0; i < 4; i++) {
            x.object(32);
            x.text();
        }
        x.by(3);
        for (int i = 0; i < 31; i++) {
            x.touch(3, i);
            x.said(i, 1);
            x.feed(0, 0, 0, 0, 0);
        }
        row("all is full", new int[] {x.about(0), x.about(1), x.about(2), x.about(3), x.about(4), x.about(5)}, 4, 4, 3, 30, 8, 300);

        Edge.promise(47, "-2 for others.");
        for (int odd : Edge.beside(0, 5)) {
            Desk.due("about(" + odd + ")", x.about(odd), -2);
        }
    }

    private static void nothingIsDone() {
        Edge.terms("All that follows changes nothing but what is told.");
        LargePages x = Desk.with(32, 32, 20);
        Desk.law(x, "wants free;spares holds;");
        x.said(3, 4);
        x.years(5, 40);
        x.copy(0, 0, 1, 0);
        String stand = Edge.stand(x);
        for (int n : new int[] {1, 4, 16}) {
            x.victim(n);
            x.next(n);
            x.holes(n);
            x.pages(0, 0, n);
        }
        for (int object = 0; object < 3; object++) {
            for (int page = 0; page < 20; page++) {
                x.would(object, page, page % 2);
                x.wants(object, page);
            }
            x.entries(object);
            x.ideal(object);
            x.digest(object);
            x.alike(object, 0);
            x.eldest(object);
            x.foretold(60, object);
        }
        x.reach();
        x.spread();
        x.sound();
        x.spares(0);
        x.whose();
        Edge.same(x, stand);
    }
}
