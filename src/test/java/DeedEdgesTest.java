import java.io.IOException;

/** The boundary cases of promises 1, 2 and 8 to 17, sentence by sentence: a new object, and all that is done. */
public final class DeedEdgesTest {
    public static void main(String[] args) throws IOException {
        newObject();
        objects();
        touching();
        writing();
        copying();
        sweeping();
        emptying();
        dropping();
        days();
        lastDays();
        playing();
        playingWhatCannotBe();
        years();
        undoing();
        Edge.close("DeedEdgesTest");
    }

    private static void newObject() {
        Edge.promise(1, "Sixty-four free frames");
        LargePages x = new LargePages();
        Desk.due("free frames", x.is(3), 64);
        for (int frame = 0; frame < 64; frame++) {
            Desk.due("frame(" + frame + ")", x.frame(frame), -1);
        }
        Desk.due("no frame more", x.frame(64), -3);
        Desk.due("nothing is reserved", x.reserved(-1, 0), 0);
        Desk.due("nothing is told", x.about(0) + x.about(1) + x.about(4), 0);

        Edge.promise(1, "THE IMAGE is this.");
        String first = Edge.stand(x);
        Desk.due("back at once", x.back(), 0);
        Edge.same(x, first);
        x.object(32);
        x.write(0, 0, 5);
        x.copy(0, 0, 0, 1);
        x.sweep(0);
        x.day(3);
        x.said(1, 1);
        Desk.due("back later", x.back(), 0);
        Edge.same(x, first);
        Desk.due("an object told anew", x.object(32), 0);
        Desk.due("nothing of it is saved", x.page(0, 0, 3), 0);
        Desk.due("it was never used", x.page(0, 0, 5), -1);
    }

    private static void objects() {
        Edge.promise(2, "AN OBJECT: its number.");
        LargePages x = new LargePages();
        for (int number = 0; number < 4; number++) {
            Desk.due("object", x.object(10 + number), number);
            Desk.due("objects", x.about(0), number + 1);
            Desk.due("its last page", x.page(number, 9 + number, 4), 0);
            Desk.due("no page more", x.page(number, 10 + number, 4), -2);
        }
        Desk.due("to tell is no step", x.about(3), 0);

        Edge.promise(2, "NONE for others (1 .. 32)");
        LargePages y = new LargePages();
        for (int size : Edge.beside(1, 32)) {
            Desk.due("object(" + size + ")", y.object(size), -1);
        }
        Desk.due("none was told", y.about(0), 0);
        Desk.due("the least", y.object(1), 0);
        Desk.due("the least has page 0", y.touch(0, 0), 0);
        Desk.due("the least has no page 1", y.touch(0, 1), -1);
        Desk.due("the greatest", y.object(32), 1);
        Desk.due("the greatest has page 31", y.touch(1, 31), 31);
        Desk.due("the greatest has no page 32", y.touch(1, 32), -1);
        Desk.due("a refused one", y.object(33), -1);
        Desk.due("takes no number", y.object(2), 2);

        Edge.promise(2, "or if there are 4.");
        String stand = Edge.stand(x);
        for (int size : new int[] {1, 10, 32, 33}) {
            Desk.due("a fifth of " + size, x.object(size), -1);
        }
        Edge.same(x, stand);
        Desk.due("there is no object 4", x.entries(4), -1);
        x.back();
        Desk.due("there are less again", x.object(7), 0);
    }

    private static void touching() {
        Edge.promise(8, "TOUCHED: the FRAME.");
        LargePages x = Edge.claimed();
        Desk.due("the first frame", x.touch(0, 0), 0);
        Desk.due("the last frame", x.touch(1, 31), 63);
        Desk.due("again", x.touch(1, 31), 63);
        Desk.due("each is a step", x.about(3), 7);

        Edge.promise(8, "NONE, if it can't be");
        LargePages y = Edge.packed();
        String stand = Edge.stand(y);
        for (int page : new int[] {0, 15, 16, 31}) {
            Desk.due("no room", y.touch(2, page), -1);
        }
        Edge.same(y, stand);
        Desk.due("those that are there can be", y.touch(1, 31), 63);

        Edge.promise(8, "and for others.");
        LargePages z = Desk.with(5, 32);
        stand = Edge.stand(z);
        for (int odd : Edge.beside(0, 1)) {
            Desk.due("touch(" + odd + ", 0)", z.touch(odd, 0), -1);
        }
        for (int odd : Edge.beside(0, 4)) {
            Desk.due("touch(0, " + odd + ")", z.touch(0, odd), -1);
        }
        for (int odd : Edge.beside(0, 31)) {
            Desk.due("touch(1, " + odd + ")", z.touch(1, odd), -1);
        }
        Edge.same(z, stand);
        Desk.due("without objects", new LargePages().touch(0, 0), -1);
    }

    private static void writing() {
        Edge.promise(9, "WRITTEN: the FRAME.");
        LargePages x = Edge.claimed();
        Desk.due("the last frame", x.write(1, 31, 7), 63);
        Desk.due("value", x.page(1, 31, 2), 7);
        Desk.due("a step", x.about(3), 5);

        Edge.promise(9, "NONE, if it can't be");
        LargePages y = Edge.packed();
        String stand = Edge.stand(y);
        Desk.due("no room", y.write(2, 31, 7), -1);
        Desk.due("no room for the same value either", y.write(2, 31, 0), -1);
        Edge.same(y, stand);

        Edge.promise(9, "and for others (0 .. 99).");
        LargePages z = Desk.with(5);
        stand = Edge.stand(z);
        for (int odd : Edge.beside(0, 99)) {
            Desk.due("write(0, 0, " + odd + ")", z.write(0, 0, odd), -1);
        }
        for (int odd : Edge.beside(0, 4)) {
            Desk.due("write(0, " + odd + ", 1)", z.write(0, odd, 1), -1);
        }
        for (int odd : Edge.beside(0, 0)) {
            Desk.due("write(" + odd + ", 0, 1)", z.write(odd, 0, 1), -1);
        }
        Edge.same(z, stand);
        Desk.due("the greatest value", z.write(0, 0, 99), 0);
        Desk.due("it is so", z.page(0, 0, 2), 99);
        Desk.due("the least value", z.write(0, 0, 0), 0);
        Desk.due("it is so", z.page(0, 0, 2), 0);
    }

    private static void copying() {
        Edge.promise(10, "COPIED from PAGE p of a to PAGE q of b: 2");
        LargePages x = Desk.with(4, 4);
        x.write(0, 3, 99);
        Desk.due("copy", x.copy(0, 3, 1, 0), 2);
        Desk.due("from", x.page(0, 3, 2), 99);
        Desk.due("to", x.page(1, 0, 2), 99);
        Desk.due("within one object", x.copy(0, 3, 0, 0), 2);
        Desk.due("to", x.page(0, 0, 2), 99);
        Desk.due("like pages of two objects", x.copy(0, 3, 1, 3), 2);
        Desk.due("to", x.page(1, 3, 2), 99);

        Edge.promise(10, "1: just the first was TOUCHED");
        LargePages y = Edge.packed();
        Desk.due("no room for the second", y.copy(0, 5, 2, 0), 1);
        Desk.due("the first is used", y.page(0, 5, 5), 64);
        Desk.due("time", y.is(0), 65);
        Desk.due("the second is absent", y.page(2, 0, 4), 0);
        Desk.due("never used", y.page(2, 0, 5), -1);

        Edge.promise(10, "0: neither.");
        Desk.due("no room for the first", y.copy(2, 0, 0, 5), 0);
        Desk.due("the second is not used", y.page(0, 5, 5), 64);
        Desk.due("time", y.is(0), 65);
        Desk.due("no room for both", y.copy(2, 0, 2, 1), 0);

        Edge.promise(10, "NONE for others (the same PAGE, too).");
        LargePages z = Desk.with(4, 32);
        z.copy(0, 0, 0, 1);
        String stand = Edge.stand(z);
        for (int odd : Edge.beside(0, 1)) {
            Desk.due("copy(" + odd + ", ..)", z.copy(odd, 0, 1, 1), -1);
            Desk.due("copy(.., " + odd + ", 1)", z.copy(0, 0, odd, 1), -1);
        }
        for (int odd : Edge.beside(0, 3)) {
            Desk.due("copy(0, " + odd + ", ..)", z.copy(0, odd, 1, 0), -1);
            Desk.due("copy(.., 0, " + odd + ")", z.copy(1, 0, 0, odd), -1);
        }
        for (int page = 0; page < 4; page++) {
            Desk.due("the same page", z.copy(0, page, 0, page), -1);
        }
        Desk.due("no such page twice", z.copy(0, 9, 0, 9), -1);
        Edge.same(z, stand);
    }

    private static void sweeping() {
        Edge.promise(11, "SWEPT: how many are saved.");
        LargePages x = Desk.with(32, 1);
        Desk.due("nothing is there", x.sweep(0), 0);
        Desk.touch(x, 0, 0, 32);
        Desk.due("nothing is dirty", x.sweep(0), 0);
        Desk.write(x, 0, 0, 32, 9);
        Desk.due("all", x.sweep(0), 32);
        Desk.due("again", x.sweep(0), 0);
        x.write(0, 31, 8);
        x.write(0, 31, 9);
        Desk.due("dirty, but as saved", x.dirty(0), 1L << 31);
        Desk.due("none is saved", x.sweep(0), 0);
        Desk.due("not dirty then", x.dirty(0), 0);
        Desk.due("how often", x.is(4), 32);

        Edge.promise(11, "NONE for others.");
        String stand = Edge.stand(x);
        for (int odd : Edge.beside(0, 1)) {
            Desk.due("sweep(" + odd + ")", x.sweep(odd), -1);
        }
        Edge.same(x, stand);
        Desk.due("without objects", new LargePages().sweep(0), -1);
    }

    private static void emptying() {
        Edge.promise(12, "EMPTIED: how many PAGES are ABSENT then.");
        LargePages x = Edge.packed();
        Desk.due("sixteen", x.empty(16), 16);
        Desk.due("the first frames are free", x.holes(16), 1);
        Desk.due("four", x.empty(4), 4);
        Desk.due("one", x.empty(1), 1);
        Desk.due("the first left", x.page(0, 0, 4) + x.page(0, 15, 4) + x.page(0, 16, 4) + x.page(0, 20, 4), 0);
        Desk.due("the next is there", x.page(0, 21, 4), 1);
        LargePages y = Desk.with(32);
        y.touch(0, 1);
        Desk.due("reserved, but empty: none", y.empty(1), 0);
        Desk.due("a step all the same", y.about(3), 2);

        Edge.promise(12, "NONE, if it can't be");
        LargePages z = Desk.with(32);
        String stand = Edge.stand(z);
        for (int n : new int[] {1, 4, 16}) {
            Desk.due("all are free: empty(" + n + ")", z.empty(n), -1);
        }
        Edge.same(z, stand);
        Desk.write(z, 0, 0, 32, 4);
        stand = Edge.stand(z);
        for (int n : new int[] {1, 4, 16}) {
            Desk.due("dirty or free: empty(" + n + ")", z.empty(n), -1);
        }
        Edge.same(z, stand);

        Edge.promise(12, "and for others (1, 4, 16).");
        stand = Edge.stand(x);
        for (int n : Edge.noBlocks()) {
            Desk.due("empty(" + n + ")", x.empty(n), -1);
        }
        Edge.same(x, stand);
    }

    private static void dropping() {
        Edge.promise(13, "DROPPED: true.");
        LargePages x = Desk.with(32, 1, 32);
        x.write(0, 31, 5);
        x.touch(1, 0);
        x.touch(2, 0);
        Desk.due("drop(0)", x.drop(0), true);
        Desk.due("free", x.is(3), 47);
        Desk.due("the others stay", x.there(1) + x.there(2), 2);
        Desk.due("nothing of it is there: drop(0)", x.drop(0), true);
        Desk.due("a step each", x.about(3), 5);

        Edge.promise(13, "False for others.");
        String stand = Edge.stand(x);
        for (int odd : Edge.beside(0, 2)) {
            Desk.due("drop(" + odd + ")", x.drop(odd), false);
        }
        Edge.same(x, stand);
        Desk.due("without objects", new LargePages().drop(0), false);
    }

    private static void days() {
        Edge.promise(14, "DAYS pass (1 .. 60)");
        LargePages x = Desk.with(20);
        Desk.due("one", x.day(1) >= 0, true);
        Desk.due("day", x.is(2), 1);
        Desk.due("steps", x.about(3), 1);
        Desk.due("sixty", x.day(60) >= 0, true);
        Desk.due("day", x.is(2), 61);
        Desk.due("steps", x.about(3), 30);

        Edge.promise(14, "how many things were done in them.");
        LargePages y = Desk.with(20, 7);
        LargePages z = Desk.with(20, 7);
        int sum = 0;
        for (int i = 0; i < 60; i++) {
            sum += z.day(1);
        }
        Desk.due("sixty at once as one by one", y.day(60), sum);
        Desk.due("without objects", new LargePages().day(60), 0);
        LargePages p = Edge.packed();
        // X is 499: the first day would write to a page of object 2 of 4, for which there is no room.
        p.object(32);
        Desk.due("what can't be is not counted", p.day(1), 0);
        Desk.due("the day is", p.is(2), 1);

        Edge.promise(14, "NONE for others");
        String stand = Edge.stand(x);
        for (int odd : Edge.beside(1, 60)) {
            Desk.due("day(" + odd + ")", x.day(odd), -1);
        }
        Edge.same(x, stand);
    }

    private static void lastDays() {
        Edge.promise(14, "or beyond 9999 (nothing is done then).");
        LargePages x = Edge.onDay(9939);
        x.object(32);
        Desk.due("sixty to the last", x.day(60) >= 0, true);
        Desk.due("day", x.is(2), 9999);
        String stand = Edge.stand(x);
        Desk.due("none can pass", x.day(1), -1);
        Desk.due("none can pass", x.day(60), -1);
        Edge.same(x, stand);
        x.undo();
        stand = Edge.stand(x);
        Desk.due("one too many", x.day(2), -1);
        Desk.due("many too many", x.day(60), -1);
        Edge.same(x, stand);
        Desk.due("just one", x.day(1) >= 0, true);
        Desk.due("day", x.is(2), 9999);
        Desk.due("still, to touch is no day", x.touch(0, 0) >= 0, true);
    }

    private static void playing() {
        Edge.promise(15, "PLAYED by a TEXT: NONE: all is done");
        LargePages x = new LargePages();
        Desk.due("no clause", Desk.text(x, ""), 0);
        Desk.due("laws alone", Desk.text(x, "wants 4;spares 0;"), 1);
        Desk.due("all clauses", Desk.text(x, "object 32;touch 31 of 0;write 0 of 0 by 99;sweep 0;empty 16;day 1;drop 0;"), 2);
        Desk.due("24 clauses", Desk.text(x, "object 1;" + "sweep 0;".repeat(22) + "day 60;"), 3);
        String stand = Edge.stand(x);
        Desk.due("no clause", x.played(0), -1);
        Desk.due("laws alone", x.played(1), -1);
        Edge.same(x, stand);
        Desk.due("all clauses", x.played(2), -1);
        Desk.due("steps", x.about(3), 6);
        Desk.due("to the edges", x.page(0, 0, 3) * 100 + x.is(2), 9901);
        Desk.due("dropped", x.there(0), 0);
        x.by(-1);
        Desk.due("24 clauses", x.played(3), -1);
        Desk.due("objects", x.about(0), 2);
        Desk.due("sixty days", x.is(2), 61);

        Edge.promise(15, "-2 for others.");
        stand = Edge.stand(x);
        for (int odd : Edge.beside(0, 3)) {
            Desk.due("played(" + odd + ")", x.played(odd), -2);
        }
        Edge.same(x, stand);
        for (int odd : Edge.beside(0, -1)) {
            Desk.due("without texts", new LargePages().played(odd), -2);
        }
    }

    private static void playingWhatCannotBe() {
        Edge.promise(15, "else the number of the CLAUSE that can't be.");
        LargePages x = Desk.with(4, 32);
        String[] refused = {"touch 4 of 0", "touch 0 of 2", "write 4 of 0 by 1", "write 0 of 3 by 1", "sweep 2",
            "drop 2", "empty 2", "empty 15", "empty 16"};
        for (String clause : refused) {
            x.image();
            Desk.text(x, clause + ";");
            Desk.text(x, "wants 1;sweep 0;spares 1;" + clause + ";sweep 1;");
            String stand = Edge.stand(x);
            Desk.due("the first: " + clause, x.played(0), 0);
            Edge.same(x, stand);
            Desk.due("laws are counted: " + clause, x.played(1), 3);
            Desk.due("what was ahead is done, what is behind not", x.about(3), 1);
            x.back();
        }
        LargePages y = Desk.with(1, 1, 1);
        Desk.text(y, "object 32;object 1;day 1;");
        Desk.due("the fifth object", y.played(0), 1);
        Desk.due("the fourth is told", y.about(0), 4);
        Desk.due("no day", y.is(2), 0);
        Desk.text(y, "day 1;".repeat(23) + "object 1;");
        Desk.due("the last clause", y.played(1), 23);
        Desk.due("the days ahead of it", y.is(2), 23);
        LargePages p = Edge.packed();
        Desk.text(p, "touch 0 of 1;touch 0 of 2;touch 1 of 1;");
        Desk.text(p, "write 0 of 2 by 1;");
        Desk.due("no room", p.played(0), 1);
        Desk.due("what was done stays", p.is(0), 65);
        Desk.due("no room", p.played(1), 0);
    }

    private static void years() {
        Edge.promise(16, "YEARS: TIME.");
        LargePages x = Desk.with(32);
        LargePages y = Desk.with(32);
        y.day(40);
        Desk.due("the least seed draws as at first", x.years(0, 40), y.is(0));
        Desk.due("day", x.is(2), 40);
        Desk.due("one step", x.about(3), 1);
        Desk.due("the greatest seed", x.years(9999, 1) >= 0, true);
        Desk.due("day", x.is(2), 41);
        Desk.due("steps", x.about(3), 2);
        Desk.due("without objects", new LargePages().years(9999, 40), 0);

        Edge.promise(16, "NONE for others.");
        String stand = Edge.stand(x);
        for (int odd : Edge.beside(0, 9999)) {
            Desk.due("years(" + odd + ", 1)", x.years(odd, 1), -1);
        }
        for (int odd : Edge.beside(1, 40)) {
            Desk.due("years(0, " + odd + ")", x.years(0, odd), -1);
        }
        Edge.same(x, stand);
    }

    private static void undoing() {
        Edge.promise(17, "The latest STEP is taken back: how many can be yet.");
        LargePages x = Desk.with(32);
        String first = Edge.stand(x);
        Desk.touch(x, 0, 0, 30);
        for (int left = 29; left >= 0; left--) {
            Desk.due("undo", x.undo(), left);
        }
        Edge.same(x, first);

        Edge.promise(17, "NONE: there is none.");
        Desk.due("undo", x.undo(), -1);
        Edge.same(x, first);
        Desk.due("of a new object", new LargePages().undo(), -1);
        x.touch(0, 99);
        x.empty(4);
        x.day(61);
        x.years(0, 0);
        Desk.due("refused calls are no steps", x.undo(), -1);
        x.object(3);
        Desk.text(x, "wants 1;");
        x.by(0);
        x.said(0, 1);
        Desk.due("nor is what is told", x.undo(), -1);
        Desk.due("it stays", x.about(0) * 100 + x.about(1) * 10 + x.about(4), 211);
    }
}
