/** Promises 2 and 8 to 17: what is done, by hand, by days, by scripts and by years, and taken back. */
public final class StepsTest {
    private static final int[] ODD = {Integer.MIN_VALUE, -2, -1, 100, Integer.MAX_VALUE};

    public static void main(String[] args) {
        objects();
        reserving();
        wanting();
        preempting();
        breaking();
        hollows();
        noRoom();
        promoting();
        writing();
        copying();
        pinning();
        sweeping();
        emptying();
        emptyingRuins();
        dropping();
        days();
        drawnDays();
        lastDays();
        scripts();
        years();
        undoing();
        Desk.close("StepsTest");
    }

    private static void objects() {
        LargePages x = new LargePages();
        Desk.due("object(0)", x.object(0), -1);
        Desk.due("object(33)", x.object(33), -1);
        for (int size : ODD) {
            Desk.due("object(" + size + ")", x.object(size), -1);
        }
        Desk.due("object(1)", x.object(1), 0);
        Desk.due("object(32)", x.object(32), 1);
        Desk.due("object(5)", x.object(5), 2);
        Desk.due("object(6)", x.object(6), 3);
        Desk.due("object(7)", x.object(7), -1);
        Desk.due("about(0)", x.about(0), 4);
        Desk.due("no step", x.about(3), 0);
    }

    private static void reserving() {
        LargePages x = Desk.with(22, 3);
        for (int odd : ODD) {
            Desk.due("touch(" + odd + ", 0)", x.touch(odd, 0), -1);
            Desk.due("touch(0, " + odd + ")", x.touch(0, odd), -1);
        }
        Desk.due("touch(2, 0)", x.touch(2, 0), -1);
        Desk.due("touch(0, 22)", x.touch(0, 22), -1);
        Desk.due("touch(1, 3)", x.touch(1, 3), -1);
        Desk.due("nothing was done", x.about(3), 0);
        Desk.due("the block of 4 with page 21 is not all in the object", x.touch(0, 21), 0);
        Desk.due("a block of 16 frames", x.touch(0, 3), 19);
        Desk.due("a block of 4 frames", x.touch(0, 18), 6);
        Desk.due("one frame", x.touch(1, 2), 1);
        Desk.due("in its reservation", x.touch(0, 0), 16);
        Desk.due("in its reservation", x.touch(0, 19), 7);
        Desk.reservation(x, 0, 0, 21, 1, 0, 0, 1);
        Desk.reservation(x, 1, 1, 2, 1, 1, 3, 1);
        Desk.reservation(x, 2, 0, 16, 4, 4, 5, 2);
        Desk.reservation(x, 3, 0, 0, 16, 16, 4, 2);
        Desk.due("there already: used anew, no fault", x.touch(0, 3), 19);
        Desk.due("used", x.page(0, 3, 5), 6);
        Desk.reservation(x, 3, 0, 0, 16, 16, 4, 2);
        Desk.line(x, 0, 0, 0, 0, 21);
        Desk.line(x, 1, 1, 0, 0, 0);
        Desk.line(x, 2, 2, 0, 0, 16);
        Desk.line(x, 3, 3, 0, 1, 2);
        Desk.due("book(NONE)", x.book(-1, 0), 4);
        Desk.due("steps", x.about(3), 7);
    }

    private static void wanting() {
        LargePages x = Desk.with(32, 32);
        Desk.law(x, "wants if page<4 then 3 else if page<8 then 4 else if page<16 then 15 else free-32 end end end;");
        Desk.due("wants 3: one page", x.touch(0, 1), 0);
        Desk.due("wants 4", x.touch(0, 5), 5);
        Desk.due("wants 15: four", x.touch(0, 9), 9);
        Desk.due("would be of 16", x.would(0, 20, 0), 16);
        Desk.due("wants 16", x.touch(0, 20), 20);
        Desk.reservation(x, 0, 0, 1, 1, 0, 0, 1);
        Desk.reservation(x, 1, 0, 4, 4, 4, 1, 1);
        Desk.reservation(x, 2, 0, 8, 4, 8, 2, 1);
        Desk.reservation(x, 3, 0, 16, 16, 16, 3, 1);
        x.by(-1);
        Desk.due("a block of 4 with a reserved page", x.would(0, 2, 0), 1);
        Desk.due("a block of 16 with a reserved page", x.would(0, 13, 0), 4);
        Desk.due("touch(0, 13)", x.touch(0, 13), 13);
        Desk.due("touch(0, 2)", x.touch(0, 2), 1);
        LargePages y = Desk.with(32, 32, 32, 32);
        y.touch(0, 0);
        y.touch(0, 16);
        y.touch(1, 0);
        y.touch(1, 16);
        Desk.law(y, "wants if free=0 then 1 else 16 end;");
        Desk.due("as all is ahead", y.touch(2, 0), 1);
        Desk.due("free then, but it was one page", y.page(2, 0, 0), 1);
    }

    private static LargePages full() {
        LargePages x = Desk.with(32, 32, 32, 32);
        x.touch(0, 0);
        x.touch(0, 16);
        x.touch(1, 0);
        x.touch(1, 16);
        return x;
    }

    private static void preempting() {
        LargePages x = full();
        x.touch(0, 1);
        Desk.due("the least time", x.victim(4), 16);
        Desk.due("victim(1)", x.victim(1), 16);
        Desk.due("none has a block of 16 without a page", x.victim(16), -1);
        Desk.due("would", x.would(2, 6, 0), 4);
        Desk.due("would", x.would(2, 6, 1), 22);
        Desk.due("touch(2, 6)", x.touch(2, 6), 22);
        Desk.line(x, 4, 5, 1, 0, 16);
        Desk.line(x, 5, 5, 0, 2, 4);
        Desk.reservation(x, 1, 0, 16, 1, 16, 1, 1);
        Desk.reservation(x, 2, 2, 4, 4, 20, 5, 1);
        Desk.due("page(0, 16)", x.page(0, 16, 0), 16);
        Desk.law(x, "spares if number=1 then 1 else 0 end;");
        x.touch(2, 16);
        x.touch(2, 20);
        Desk.due("no block of 4 is free", x.holes(4), 0);
        Desk.due("spared ones stay", x.victim(4), 32);
        Desk.law(x, "spares 0;");
        Desk.due("all are spared", x.victim(1), -1);
        Desk.due("one frame is free yet", x.touch(2, 24), 17);
    }

    private static void breaking() {
        LargePages x = full();
        Desk.touch(x, 0, 4, 4);
        Desk.write(x, 0, 8, 2, 3);
        x.touch(0, 10);
        x.touch(0, 11);
        x.touch(0, 12);
        Desk.due("level of a whole block", x.page(0, 4, 4), 4);
        Desk.due("level of a mixed block", x.page(0, 8, 4), 1);
        x.touch(0, 17);
        x.touch(1, 1);
        x.touch(1, 17);
        Desk.law(x, "spares if number=0 and holds>9 then 1 else 0 end;wants 1;");
        Desk.due("victim", x.victim(1), 0);
        Desk.due("victim for 4", x.victim(4), -1);
        Desk.due("touch", x.touch(2, 0), 1);
        Desk.reservation(x, 0, 0, 0, 1, 0, 12, 1);
        Desk.reservation(x, 1, 2, 0, 1, 1, 16, 1);
        Desk.reservation(x, 2, 0, 4, 4, 4, 12, 4);
        Desk.reservation(x, 3, 0, 8, 4, 8, 12, 4);
        Desk.reservation(x, 4, 0, 12, 1, 12, 12, 1);
        Desk.due("levels stay", x.page(0, 4, 4), 4);
        Desk.due("levels stay", x.page(0, 8, 4), 1);
        Desk.due("dirty stays", x.dirty(0), 0x300);
        Desk.due("free", x.is(3), 5);
        Desk.due("sound", x.sound(), true);
        x.sweep(0);
        Desk.due("promoted in its own reservation", x.page(0, 8, 4), 4);
        Desk.due("a block in four reservations is not", x.page(0, 0, 4), 1);
    }

    /** The frames of a broken reservation are free, the first one too, and its blocks are looked at one by one. */
    private static void hollows() {
        LargePages x = full();
        x.drop(0);
        x.touch(0, 21);
        x.touch(0, 5);
        Desk.due("frames", x.page(0, 21, 0), 5);
        x.touch(2, 0);
        Desk.due("the eldest is broken", x.page(2, 0, 0), 36);
        LargePages y = Desk.with(32, 32, 32, 32);
        for (int page : new int[] {1, 4, 12}) {
            y.touch(0, page);
        }
        for (int page : new int[] {16, 20, 24}) {
            y.touch(0, page);
        }
        y.touch(1, 5);
        Desk.touch(y, 1, 16, 16);
        Desk.due("the third block has no page", y.victim(4), 0);
        Desk.due("its frame", y.would(2, 2, 1), 10);
        Desk.due("it is in frames 8 to 11", y.touch(2, 2), 10);
        Desk.due("the first frame is free", y.frame(0), -1);
        Desk.due("the second has its page", y.frame(1), 1);
        Desk.due("the last block has no page", y.victim(4), 16);
        Desk.due("it is in frames 28 to 31", y.touch(3, 1), 29);
        Desk.due("the first block has no page", y.victim(4), 32);
        Desk.due("it is in frames 32 to 35", y.touch(3, 17), 33);
        Desk.due("so is the third", y.touch(3, 21), 41);
        Desk.due("sound", y.sound(), true);
    }

    private static void noRoom() {
        LargePages x = Desk.with(32, 32, 32);
        Desk.law(x, "wants 1;");
        Desk.touch(x, 0, 0, 32);
        Desk.touch(x, 1, 0, 32);
        Desk.due("free", x.is(3), 0);
        Desk.due("steps", x.about(3), 30);
        x.undo();
        Desk.touch(x, 2, 9, 1);
        int time = x.is(0);
        Desk.due("no room", x.touch(2, 0), -1);
        Desk.due("no room", x.write(2, 0, 5), -1);
        Desk.due("would", x.would(2, 0, 0), -1);
        Desk.due("would", x.would(2, 0, 1), -1);
        Desk.due("nothing is done", x.is(0), time);
        Desk.due("nothing is done", x.page(2, 0, 2), 0);
        Desk.due("nothing is done", x.page(2, 0, 5), -1);
        Desk.due("no step more", x.about(3), 30);
        Desk.due("the latest step is the touch", x.undo(), 29);
        Desk.due("the latest step is the touch", x.page(2, 9, 0), -1);
        LargePages y = full();
        Desk.law(y, "wants 1;");
        Desk.touch(y, 0, 0, 32);
        Desk.touch(y, 1, 0, 32);
        int done = y.day(60);
        Desk.due("days without room do less", done > 0 && done < 60, true);
        LargePages z = full();
        Desk.touch(z, 0, 0, 32);
        Desk.touch(z, 1, 0, 32);
        // X is 499: the first day would write to page 1 of object 2 of 4 (499 % 8 is 3, 6906 % 4 is 2).
        Desk.due("no room", z.day(1), 0);
        Desk.due("nothing is done", z.is(0), 68);
        Desk.due("all is drawn", z.is(1), 16419);
        Desk.due("a day and a step", z.is(2) + z.about(3), 31);
    }

    private static void promoting() {
        LargePages x = Desk.with(32);
        Desk.touch(x, 0, 0, 3);
        Desk.due("three are there", x.page(0, 0, 4), 1);
        Desk.touch(x, 0, 3, 1);
        Desk.due("four are there", x.page(0, 0, 4), 4);
        Desk.line(x, 1, 3, 2, 0, 0);
        Desk.touch(x, 0, 4, 11);
        Desk.due("fifteen are there", x.page(0, 11, 4), 4);
        Desk.due("fifteen are there", x.page(0, 14, 4), 1);
        Desk.due("entries", x.entries(0), 6);
        Desk.touch(x, 0, 15, 1);
        Desk.due("all are there", x.page(0, 14, 4), 16);
        Desk.line(x, 4, 15, 2, 0, 12);
        Desk.line(x, 5, 15, 2, 0, 0);
        Desk.due("entries", x.entries(0), 1);
        Desk.due("reach", x.reach(), 16);
        x.write(0, 6, 0);
        Desk.due("the same value", x.page(0, 6, 4), 16);
        x.write(0, 6, 1);
        Desk.line(x, 6, 18, 3, 0, 0);
        Desk.line(x, 7, 18, 3, 0, 4);
        Desk.due("book", x.book(-1, 0), 8);
        Desk.due("its block of 4", x.page(0, 4, 4), 1);
        Desk.due("other blocks of 4", x.page(0, 0, 4), 4);
        Desk.due("reach", x.reach(), 12);
        Desk.write(x, 0, 4, 4, 1);
        Desk.line(x, 8, 22, 2, 0, 4);
        Desk.due("all dirty", x.page(0, 4, 4), 4);
        Desk.write(x, 0, 0, 4, 1);
        Desk.write(x, 0, 8, 7, 1);
        Desk.due("not all of 16 are dirty", x.page(0, 0, 4), 4);
        Desk.write(x, 0, 15, 1, 1);
        Desk.due("all of 16 are dirty", x.page(0, 0, 4), 16);
        x.write(0, 3, 2);
        Desk.due("dirty already", x.page(0, 3, 4), 16);
        x.sweep(0);
        Desk.due("swept", x.page(0, 3, 4), 16);
        Desk.due("saved", x.page(0, 3, 3), 2);
    }

    private static void writing() {
        LargePages x = Desk.with(8, 8);
        for (int odd : ODD) {
            Desk.due("write(0, 0, " + odd + ")", x.write(0, 0, odd), -1);
            Desk.due("write(" + odd + ", 0, 1)", x.write(odd, 0, 1), -1);
            Desk.due("write(0, " + odd + ", 1)", x.write(0, odd, 1), -1);
        }
        Desk.due("write(0, 8, 1)", x.write(0, 8, 1), -1);
        Desk.due("write(2, 0, 1)", x.write(2, 0, 1), -1);
        Desk.due("no step", x.about(3), 0);
        Desk.due("write 99", x.write(0, 1, 99), 1);
        Desk.due("value", x.page(0, 1, 2), 99);
        Desk.due("dirty", x.page(0, 1, 1), 1);
        Desk.due("saved", x.page(0, 1, 3), 0);
        Desk.due("used", x.page(0, 1, 5), 0);
        Desk.due("write the same", x.write(0, 2, 0), 2);
        Desk.due("not dirty", x.page(0, 2, 1), 0);
        Desk.due("write 0 to a dirty page", x.write(0, 1, 0), 1);
        Desk.due("dirty yet", x.page(0, 1, 1), 1);
        Desk.due("nothing to save", x.sweep(0), 0);
        Desk.due("not dirty", x.page(0, 1, 1), 0);
        Desk.due("savings", x.is(4), 0);
        Desk.due("steps", x.about(3), 4);
    }

    private static void copying() {
        LargePages x = Desk.with(8, 8);
        Desk.due("copy of the same page", x.copy(0, 1, 0, 1), -1);
        for (int odd : ODD) {
            Desk.due("copy", x.copy(odd, 0, 1, 1), -1);
            Desk.due("copy", x.copy(0, odd, 1, 1), -1);
            Desk.due("copy", x.copy(0, 0, odd, 1), -1);
            Desk.due("copy", x.copy(0, 0, 1, odd), -1);
        }
        Desk.due("no step", x.about(3), 0);
        x.write(0, 1, 7);
        Desk.due("copy", x.copy(0, 1, 1, 6), 2);
        Desk.due("let", x.let(-1), 2);
        Desk.due("let(0)", x.let(0), 6);
        Desk.due("let(1)", x.let(1), 1);
        Desk.due("let(2)", x.let(2), -2);
        Desk.due("value", x.page(1, 6, 2), 7);
        Desk.due("dirty", x.page(1, 6, 1), 1);
        Desk.due("used", x.page(0, 1, 5), 1);
        Desk.due("used twice", x.page(1, 6, 5), 3);
        Desk.due("time", x.is(0), 4);
        Desk.due("the fault's time", x.reserved(1, 4), 2);
        Desk.due("copy within an object", x.copy(0, 1, 0, 2), 2);
        Desk.due("let(0)", x.let(0), 2);
        Desk.due("copy that can't be", x.copy(0, 1, 0, 8), -1);
        Desk.due("let stays", x.let(0), 2);
        x.undo();
        Desk.due("taken back", x.let(0), 6);
        x.undo();
        Desk.due("taken back", x.let(-1), 0);
        for (int odd : new int[] {Integer.MIN_VALUE, -2, 0, 1, Integer.MAX_VALUE}) {
            Desk.due("let(" + odd + ")", x.let(odd), -2);
        }
    }

    private static void pinning() {
        LargePages x = full();
        Desk.law(x, "spares 0;");
        int steps = x.about(3);
        Desk.due("just the first", x.copy(0, 1, 2, 0), 1);
        Desk.due("it was pinned and is let go", x.let(-1), 1);
        Desk.due("its frame", x.let(0), 1);
        Desk.due("time", x.is(0), 5);
        Desk.due("a step", x.about(3), steps + 1);
        Desk.due("neither", x.copy(2, 0, 0, 1), 0);
        Desk.due("nobody is let go", x.let(-1), 0);
        Desk.due("a step whatever comes of it", x.about(3), steps + 2);
        Desk.due("time", x.is(0), 5);
        x.undo();
        Desk.due("let go again", x.let(-1), 1);
        LargePages y = Desk.with(32, 32, 32);
        Desk.touch(y, 0, 0, 32);
        Desk.touch(y, 1, 0, 17);
        Desk.due("one victim", y.victim(1), 48);
        Desk.due("it is pinned", y.copy(1, 16, 2, 0), 1);
        Desk.due("page", y.page(2, 0, 0), -1);
        Desk.due("no more", y.victim(1), 48);
        LargePages z = Desk.with(32, 32, 32);
        Desk.touch(z, 0, 0, 32);
        z.touch(1, 0);
        Desk.touch(z, 1, 16, 16);
        Desk.due("the pages beside the reservation pin it not", z.copy(1, 16, 2, 0), 2);
        Desk.due("let", z.let(0), 36);
        Desk.due("copy the other way", y.copy(0, 0, 2, 0), 2);
        Desk.due("let", y.let(0), 52);
        Desk.due("let", y.let(1), 0);
    }

    private static void sweeping() {
        LargePages x = Desk.with(16, 4);
        for (int odd : ODD) {
            Desk.due("sweep(" + odd + ")", x.sweep(odd), -1);
        }
        Desk.due("sweep(2)", x.sweep(2), -1);
        Desk.due("no step", x.about(3), 0);
        Desk.due("nothing there", x.sweep(0), 0);
        Desk.due("a step", x.about(3), 1);
        Desk.touch(x, 0, 0, 16);
        Desk.write(x, 0, 4, 4, 5);
        x.write(0, 0, 6);
        x.write(0, 9, 8);
        x.write(0, 9, 0);
        x.write(1, 0, 4);
        Desk.due("level", x.page(0, 4, 4), 4);
        Desk.due("level", x.page(0, 0, 4), 1);
        Desk.due("level", x.page(0, 8, 4), 1);
        Desk.due("five are saved", x.sweep(0), 5);
        Desk.due("savings", x.is(4), 5);
        Desk.due("all is one", x.page(0, 0, 4), 16);
        Desk.due("dirty", x.dirty(0), 0);
        Desk.due("the other object", x.dirty(1), 1);
        int lines = x.book(-1, 0);
        Desk.due("lines", x.book(lines - 3, 3), 0);
        Desk.due("lines", x.book(lines - 2, 3), 8);
        Desk.due("lines", x.book(lines - 1, 3), 0);
        Desk.due("savings", x.sweep(1) + x.is(4), 7);
        x.undo();
        x.undo();
        Desk.due("saved is taken back", x.page(0, 4, 3), 0);
        Desk.due("savings are taken back", x.is(4), 0);
        Desk.due("levels are taken back", x.page(0, 0, 4), 1);
    }

    private static void emptying() {
        LargePages x = Desk.with(32, 32);
        for (int n : new int[] {Integer.MIN_VALUE, -1, 0, 2, 3, 5, 8, 15, 17, 64, Integer.MAX_VALUE}) {
            Desk.due("empty(" + n + ")", x.empty(n), -1);
            Desk.due("next(" + n + ")", x.next(n), -1);
        }
        Desk.due("all are free", x.empty(1), -1);
        Desk.due("all are free", x.empty(16), -1);
        Desk.due("no step", x.about(3), 0);
        Desk.touch(x, 0, 16, 16);
        Desk.touch(x, 0, 0, 16);
        x.touch(0, 16);
        Desk.due("used latest", x.next(16), 16);
        Desk.due("used latest", x.next(4), 4);
        Desk.due("used latest", x.next(1), 1);
        Desk.due("empty(4)", x.empty(4), 4);
        Desk.due("there", x.there(0), 0xFF0FFFFFL);
        Desk.due("the others are of one", x.reserved(-1, 0), 13);
        Desk.due("level", x.page(0, 16, 4), 1);
        Desk.due("level elsewhere", x.page(0, 0, 4), 16);
        Desk.due("absent", x.page(0, 20, 0), -1);
        Desk.due("absent", x.page(0, 20, 4), 0);
        Desk.due("used stays", x.page(0, 20, 5), 4);
        Desk.reservation(x, 0, 0, 16, 1, 0, 15, 1);
        int lines = x.book(-1, 0);
        Desk.line(x, lines - 1, 33, 4, 4, 4);
        x.write(0, 5, 1);
        Desk.due("no dirty page in it", x.next(16), 0);
        Desk.due("empty(16)", x.empty(16), 12);
        Desk.due("no dirty page in it", x.next(16), -1);
        Desk.due("empty(16)", x.empty(16), -1);
        Desk.due("no dirty page in it", x.next(4), 16);
        Desk.due("undo", x.undo() >= 0, true);
        Desk.due("back there", x.there(0), 0xFF0FFFFFL);
    }

    private static void emptyingRuins() {
        LargePages x = Desk.with(20, 16);
        x.write(0, 3, 9);
        x.touch(0, 5);
        Desk.touch(x, 0, 8, 4);
        x.touch(0, 16);
        x.touch(1, 0);
        Desk.due("frames 4 to 7 hold a page", x.next(4), 12);
        Desk.due("no page in it: none is absent", x.empty(4), 0);
        Desk.due("a dirty page stays so", x.page(0, 3, 1), 1);
        Desk.due("its value", x.page(0, 3, 2), 9);
        Desk.due("level 4 ends", x.page(0, 8, 4), 1);
        Desk.due("no line of demoted", x.ledger(3), 0);
        Desk.reservation(x, 0, 0, 3, 1, 3, 5, 1);
        Desk.reservation(x, 1, 0, 5, 1, 5, 5, 1);
        Desk.due("reservations", x.reserved(-1, 0), 8);
        Desk.due("frame 4 is free", x.frame(4), -1);
        Desk.due("free pages of a block count not", x.next(16), 16);
        Desk.due("sixteen", x.empty(16), 1);
        Desk.due("page 16 is absent", x.page(0, 16, 0), -1);
        Desk.due("sound", x.sound(), true);
        Desk.due("fault of a page whose block is ruined", x.would(0, 2, 0), 1);
        Desk.due("fault of a page in a clear block of 4", x.would(0, 13, 0), 4);
    }

    private static void dropping() {
        LargePages x = Desk.with(32, 8);
        for (int odd : ODD) {
            Desk.due("drop(" + odd + ")", x.drop(odd), false);
        }
        Desk.due("drop(2)", x.drop(2), false);
        Desk.due("no step", x.about(3), 0);
        x.write(0, 0, 5);
        x.sweep(0);
        x.write(0, 0, 6);
        x.touch(0, 17);
        x.write(1, 0, 7);
        Desk.due("drop(0)", x.drop(0), true);
        Desk.due("value as saved", x.page(0, 0, 2), 5);
        Desk.due("not dirty", x.page(0, 0, 1), 0);
        Desk.due("level", x.page(0, 0, 4), 0);
        Desk.due("used stays", x.page(0, 0, 5), 1);
        Desk.due("there", x.there(0), 0);
        Desk.due("the other", x.there(1), 1);
        Desk.due("free", x.is(3), 60);
        Desk.due("reservations", x.reserved(-1, 0), 1);
        Desk.line(x, x.book(-1, 0) - 1, 4, 5, 0, 0);
        Desk.due("drop again", x.drop(0), true);
        Desk.due("written down", x.ledger(5), 2);
        Desk.due("steps", x.about(3), 7);
        Desk.due("its fault", x.touch(0, 0), 0);
        Desk.due("value as saved", x.page(0, 0, 2), 5);
        LargePages y = Desk.with(32);
        Desk.touch(y, 0, 0, 20);
        Desk.due("reach", y.reach(), 20);
        y.drop(0);
        Desk.due("reach", y.reach(), 0);
        Desk.due("entries", y.entries(0), 0);
        y.touch(0, 1);
        y.touch(0, 17);
        Desk.due("level", y.page(0, 1, 4), 1);
        Desk.due("level", y.page(0, 17, 4), 1);
    }

    private static void days() {
        LargePages x = new LargePages();
        for (int n : new int[] {Integer.MIN_VALUE, -1, 0, 61, Integer.MAX_VALUE}) {
            Desk.due("day(" + n + ")", x.day(n), -1);
        }
        Desk.due("no step", x.about(3), 0);
        Desk.due("without objects", x.day(3), 0);
        Desk.due("day", x.is(2), 3);
        Desk.due("nothing is drawn", x.is(1), 499);
        Desk.due("each day is a step", x.about(3), 3);
        Desk.due("undo", x.undo(), 2);
        Desk.due("day", x.is(2), 2);
        Desk.due("sixty days", x.day(60), 0);
        Desk.due("steps", x.about(3), 30);
    }

    /** What the document's draws say, by hand: X mod, and then X anew. */
    private static int x;

    private static int draw(int by) {
        int drawn = x % by;
        x = (x * 761 + 619) % 31121;
        return drawn;
    }

    private static void drawnDays() {
        LargePages by = Desk.with(20, 7, 32);
        LargePages hand = Desk.with(20, 7, 32);
        int[] sizes = {20, 7, 32};
        x = 499;
        for (int i = 0; i < 400; i++) {
            int what = draw(8);
            int object = draw(3);
            int page = draw(sizes[object]);
            int done = 1;
            if (what <= 2) {
                done = hand.touch(object, page) >= 0 ? 1 : 0;
            } else if (what <= 5) {
                done = hand.write(object, page, draw(100)) >= 0 ? 1 : 0;
            } else if (what == 6) {
                hand.sweep(object);
            } else {
                done = hand.empty(new int[] {1, 4, 16}[draw(3)]) >= 0 ? 1 : 0;
            }
            Desk.due("day " + i, by.day(1), done);
            Desk.due("X", by.is(1), x);
            for (int o = 0; o < 3; o++) {
                Desk.due("there", by.there(o), hand.there(o));
                Desk.due("dirty", by.dirty(o), hand.dirty(o));
                Desk.due("digest", by.digest(o), hand.digest(o));
            }
            Desk.due("time", by.is(0), hand.is(0));
            Desk.due("free", by.is(3), hand.is(3));
            Desk.due("savings", by.is(4), hand.is(4));
        }
    }

    private static void lastDays() {
        LargePages x = new LargePages();
        Desk.text(x, "day 60;".repeat(24));
        Desk.text(x, "day 60;object 3;");
        for (int i = 0; i < 6; i++) {
            Desk.due("played", x.played(0), -1);
        }
        for (int i = 0; i < 22; i++) {
            Desk.due("day(60)", x.day(60), 0);
        }
        Desk.due("day", x.is(2), 9960);
        Desk.due("beyond", x.day(40), -1);
        Desk.due("nothing is done", x.is(2), 9960);
        Desk.text(x, "day 39;");
        x.image();
        Desk.due("up to the last day", x.played(2), -1);
        Desk.due("day", x.is(2), 9999);
        Desk.due("none can pass", x.played(2), 0);
        x.back();
        Desk.due("played: the day that can't be", x.played(1), 0);
        Desk.due("those that can pass do", x.is(2), 9999);
        Desk.due("no clause behind it", x.about(0), 0);
        x.back();
        Desk.due("day(39)", x.day(39), 0);
        Desk.due("day", x.is(2), 9999);
        Desk.due("none can pass", x.day(1), -1);
        x.object(10);
        x.touch(0, 0);
        int steps = x.about(3);
        Desk.due("years", x.years(3, 5), 1);
        Desk.due("X", x.is(1), 505);
        Desk.due("day", x.is(2), 9999);
        Desk.due("a step all the same", x.about(3), steps);
        Desk.due("foretold", x.foretold(60, 0), x.is(3));
        Desk.due("foretold", x.foretold(60, 1), x.reserved(-1, 0));
        Desk.due("foretold", x.foretold(60, 2), x.entries(0));
        x.undo();
        Desk.due("X", x.is(1), 499);
        x.undo();
        x.undo();
        x.undo();
        Desk.due("day", x.is(2), 9997);
        Desk.due("beyond", x.day(3), -1);
        Desk.due("day(2)", x.day(2) >= 0, true);
        x.undo();
        Desk.due("years", x.years(3, 40) >= 0, true);
        Desk.due("day", x.is(2), 9999);
    }

    private static void scripts() {
        LargePages x = new LargePages();
        for (int odd : new int[] {Integer.MIN_VALUE, -2, -1, 0, 4, Integer.MAX_VALUE}) {
            Desk.due("played(" + odd + ")", x.played(odd), -2);
        }
        Desk.text(x, "object 20;wants 4;touch 3 of 0;write 17 of 0 by 8;sweep 0;spares 1;empty 1;drop 0;day 2;object 2;");
        Desk.due("played", x.played(0), -1);
        Desk.due("objects", x.about(0), 2);
        Desk.due("no law rules by that", x.about(2), -1);
        Desk.due("steps", x.about(3), 7);
        Desk.due("saved", x.page(0, 17, 3), 8);
        Desk.due("days", x.is(2), 2);
        Desk.due("again", x.played(0), -1);
        Desk.due("objects", x.about(0), 4);
        Desk.due("a fifth object", x.played(0), 0);
        LargePages y = Desk.with(4);
        Desk.text(y, "wants 4;touch 3 of 0;touch 4 of 0;touch 2 of 0;");
        Desk.text(y, "write 0 of 1 by 1;");
        Desk.text(y, "sweep 0;sweep 1;");
        Desk.text(y, "empty 4;empty 2;");
        Desk.due("no such page", y.played(0), 2);
        Desk.due("what was done stays", y.there(0), 8);
        Desk.due("no such object", y.played(1), 0);
        Desk.due("no such object", y.played(2), 1);
        Desk.due("no such block", y.played(3), 1);
        Desk.due("nothing is left", y.played(3), 0);
        Desk.due("steps", y.about(3), 3);
        y.back();
        y.object(4);
        Desk.text(y, "drop 0;drop 1;");
        Desk.text(y, "");
        Desk.due("drop", y.played(0), 1);
        Desk.due("a text without clauses", y.played(1), -1);
    }

    private static void years() {
        LargePages x = Desk.with(32, 20);
        for (int odd : new int[] {Integer.MIN_VALUE, -1, 10000, Integer.MAX_VALUE}) {
            Desk.due("years(" + odd + ", 1)", x.years(odd, 1), -1);
        }
        for (int odd : new int[] {Integer.MIN_VALUE, -1, 0, 41, Integer.MAX_VALUE}) {
            Desk.due("years(1, " + odd + ")", x.years(1, odd), -1);
        }
        Desk.due("nothing is done", x.is(1), 499);
        Desk.due("no step", x.about(3), 0);
        LargePages y = Desk.with(32, 20);
        y.day(40);
        Desk.due("the draws of the seed 0 are the first", x.years(0, 40), y.is(0));
        Desk.due("X", x.is(1), y.is(1));
        Desk.due("there", x.there(0), y.there(0));
        Desk.due("there", x.there(1), y.there(1));
        Desk.due("day", x.is(2), 40);
        Desk.due("one step", x.about(3), 1);
        x.years(9999, 1);
        Desk.due("undo", x.undo(), 1);
        Desk.due("X", x.is(1), y.is(1));
        Desk.due("undo", x.undo(), 0);
        Desk.due("X", x.is(1), 499);
        Desk.due("there", x.there(0), 0);
        LargePages z = new LargePages();
        Desk.due("without objects", z.years(9999, 3), 0);
        Desk.due("X", z.is(1), 20497);
        Desk.due("day", z.is(2), 3);
    }

    private static void undoing() {
        LargePages x = Desk.with(32);
        Desk.due("none", x.undo(), -1);
        for (int i = 0; i < 32; i++) {
            x.write(0, i, i + 1);
        }
        Desk.due("thirty", x.about(3), 30);
        x.object(9);
        Desk.law(x, "wants 2;");
        x.said(1, 2);
        x.write(1, 3, 50);
        for (int i = 29; i >= 0; i--) {
            Desk.due("undo", x.undo(), i);
        }
        Desk.due("none", x.undo(), -1);
        Desk.due("three steps are too old", x.there(0), 7);
        Desk.due("time", x.is(0), 3);
        Desk.due("book", x.book(-1, 0), 1);
        Desk.due("an object told since", x.about(0), 2);
        Desk.due("it is as at first", x.there(1), 0);
        Desk.due("it is as at first", x.page(1, 3, 2), 0);
        Desk.due("it is as at first", x.page(1, 3, 5), -1);
        Desk.due("the text", x.about(2), 0);
        Desk.due("said", x.about(4), 1);
        Desk.due("a step anew", x.touch(0, 0), 0);
        Desk.due("undo", x.undo(), 0);
        LargePages y = Desk.with(32);
        Desk.touch(y, 0, 0, 4);
        y.touch(0, 16);
        Desk.due("time of the latest fault", y.reserved(0, 4), 3);
        y.touch(0, 5);
        Desk.due("time of the latest fault", y.reserved(0, 4), 5);
        y.undo();
        Desk.due("taken back", y.reserved(0, 4), 3);
        y.write(0, 2, 9);
        y.undo();
        Desk.due("level", y.page(0, 2, 4), 4);
        Desk.due("dirty", y.dirty(0), 0);
        Desk.due("value", y.page(0, 2, 2), 0);
        Desk.due("used", y.page(0, 2, 5), 2);
        Desk.due("book", y.book(-1, 0), 3);
        y.drop(0);
        y.undo();
        Desk.due("level", y.page(0, 2, 4), 4);
        Desk.line(y, 1, 3, 2, 0, 0);
    }
}
