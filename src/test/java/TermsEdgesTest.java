import java.io.IOException;

/** The boundary cases that the terms I and V name, clause by clause: frames, faults, levels, days, steps, years. */
public final class TermsEdgesTest {
    public static void main(String[] args) throws IOException {
        bounds();
        reservations();
        calls();
        blocks();
        wanting();
        room();
        noRoom();
        behindAFault();
        victims();
        broken();
        promotedToFour();
        promotedToSixteen();
        demoted();
        touched();
        written();
        copied();
        pinned();
        swept();
        emptied();
        emptiedRuins();
        dropped();
        draws();
        daysThatCannotBe();
        lastDay();
        writtenDown();
        steps();
        takenBack();
        playedDays();
        years();
        Edge.close("TermsEdgesTest");
    }

    private static void bounds() {
        Edge.terms("FRAMES 0 .. 63. OBJECTS 0 .. 3 (told one by one): PAGES 0 to SIZE (1 .. 32).");
        LargePages x = Desk.with(32, 32, 32, 32);
        Desk.touch(x, 3, 0, 32);
        Desk.touch(x, 2, 0, 32);
        Desk.due("page 0 of object 3", x.frame(0), 96);
        Desk.due("page 31 of object 2", x.frame(63), 95);
        LargePages small = Desk.with(1);
        Desk.due("page 0 of 1", small.touch(0, 0), 0);
        Desk.due("page 1 of 1", small.touch(0, 1), -1);

        Edge.terms("what is SAVED of it (at first 0), DIRTY or not (at first not), LEVEL 0 (ABSENT), 1, 4 or 16");
        for (int page : new int[] {0, 31}) {
            Desk.due("saved", x.page(0, page, 3), 0);
            Desk.due("value", x.page(0, page, 2), 0);
            Desk.due("dirty", x.page(0, page, 1), 0);
            Desk.due("level", x.page(0, page, 4), 0);
        }

        Edge.terms("A FRAME in none is FREE. TIME 0 .. 99999, DAY 0 .. 9999 (at first 0). X: at first 499. BOOK (the latest 25).");
        LargePages y = new LargePages();
        Desk.due("free", y.is(3), 64);
        Desk.due("time", y.is(0), 0);
        Desk.due("day", y.is(2), 0);
        Desk.due("X", y.is(1), 499);
        Desk.due("book", y.book(-1, 0), 0);
        y.object(1);
        for (int i = 0; i < 26; i++) {
            y.drop(0);
        }
        Desk.due("the latest 25", y.book(-1, 0), 25);
    }

    private static void reservations() {
        Edge.terms("A PAGE is ABSENT (at first) or in a FRAME; VALUE 0 .. 99");
        LargePages x = Desk.with(32, 20, 7, 1);
        Desk.due("absent at first", x.page(0, 0, 0) + x.page(0, 31, 0) + x.page(3, 0, 0), -3);
        Desk.due("no value below", x.write(0, 0, -1), -1);
        Desk.due("no value above", x.write(0, 0, 100), -1);
        Desk.due("absent yet", x.page(0, 0, 0), -1);

        Edge.terms("of an OBJECT n PAGES (1, 4 or 16) from one on that is a multiple of n, in n FRAMES from one on that is a multiple of n: each PAGE of it that is there is in its own one of these; no two have a FRAME or a PAGE in common; and the TIME of its latest FAULT.");
        for (int seed = 0; seed < 40; seed++) {
            x.years(seed * 250, 40);
            Desk.due("reservations behind years", apart(x), true);
        }
    }

    /** What the document says of reservations, by what reserved, frame and page answer. */
    private static boolean apart(LargePages x) {
        boolean[] frames = new boolean[64];
        boolean[] pages = new boolean[128];
        int[] sizes = {32, 20, 7, 1};
        for (int i = 0; i < x.reserved(-1, 0); i++) {
            int object = x.reserved(i, 0);
            int page = x.reserved(i, 1);
            int n = x.reserved(i, 2);
            int frame = x.reserved(i, 3);
            if (n != 1 && n != 4 && n != 16 || page % n != 0 || frame % n != 0 || page + n > sizes[object]
                    || x.reserved(i, 4) >= x.is(0) || x.reserved(i, 5) < 1) {
                return false;
            }
            for (int k = 0; k < n; k++) {
                int there = x.page(object, page + k, 0);
                if (frames[frame + k] || pages[32 * object + page + k] || there != -1 && there != frame + k
                        || x.frame(frame + k) != (there == -1 ? -2 : 32 * object + page + k)) {
                    return false;
                }
                frames[frame + k] = true;
                pages[32 * object + page + k] = true;
            }
        }
        for (int frame = 0; frame < 64; frame++) {
            if (!frames[frame] && x.frame(frame) != -1) {
                return false;
            }
        }
        return true;
    }

    private static void calls() {
        Edge.terms("An object is used for at most 512 calls after it has been made");
        LargePages x = Desk.with(32, 32, 32, 32);
        int time = 0;
        for (int i = 4; i < 512; i++) {
            time = i % 4 == 0 ? x.years(i, 40) : i % 4 == 1 ? x.image() : x.touch(i % 3, i % 32) >= 0 ? x.is(0) : time;
        }
        Desk.due("time goes on", time > 0 && time == x.is(0), true);
        Desk.due("sound", x.sound(), true);
    }

    /** How many pages a fault of that page reserves in a new object of that size. */
    private static void reserves(int size, int page, int due) {
        LargePages x = Desk.with(size);
        Desk.due("page " + page + " of " + size, x.would(0, page, 0), due);
        x.touch(0, page);
        Desk.reservation(x, 0, 0, page / due * due, due, 0, 0, 1);
    }

    private static void blocks() {
        Edge.terms("BLOCKS of n: n PAGES of an OBJECT (or n FRAMES) from a multiple of n on.");
        reserves(32, 0, 16);
        reserves(32, 15, 16);
        reserves(32, 16, 16);
        reserves(32, 31, 16);

        Edge.terms("whose BLOCK with that PAGE is all in the OBJECT");
        int[][] cases = {{1, 0, 1}, {3, 0, 1}, {3, 2, 1}, {4, 0, 4}, {4, 3, 4}, {5, 3, 4}, {5, 4, 1}, {15, 0, 4}, {15, 11, 4},
            {15, 12, 1}, {16, 0, 16}, {16, 15, 16}, {17, 15, 16}, {17, 16, 1}, {19, 18, 1}, {20, 19, 4}, {31, 15, 16},
            {31, 16, 4}, {31, 27, 4}, {31, 28, 1}, {31, 30, 1}};
        for (int[] one : cases) {
            reserves(one[0], one[1], one[2]);
        }

        Edge.terms("and has no PAGE in any RESERVATION of it");
        LargePages x = Desk.with(32, 32);
        Desk.law(x, "wants if page=3 then 1 else 16 end;");
        x.touch(0, 3);
        Desk.due("in the block of 4 with it", x.would(0, 0, 0), 1);
        Desk.due("in the block of 16 with it", x.would(0, 4, 0), 4);
        Desk.due("in the block of 16 with it", x.would(0, 15, 0), 4);
        Desk.due("in the other block of 16", x.would(0, 16, 0), 16);
        Desk.due("of another object", x.would(1, 0, 0), 16);
        x.touch(0, 12);
        Desk.due("an absent page's reservation counts", x.would(0, 13, 0), 0);
        Desk.due("beside it", x.would(0, 11, 0), 4);
    }

    private static void wanting() {
        Edge.terms("of 16, of 4, of 1 PAGES, in turn, the first that is no more than wants (as all is ahead)");
        int[][] cases = {{0, 1}, {1, 1}, {3, 1}, {4, 4}, {5, 4}, {15, 4}, {16, 16}, {17, 16}};
        for (int[] one : cases) {
            LargePages x = Desk.with(32);
            Desk.law(x, "wants " + one[0] + ";");
            Desk.due("wants " + one[0], x.would(0, 5, 0), one[1]);
            Desk.due("its frame", x.touch(0, 5), 5 % one[1]);
            Desk.due("wants " + one[0], x.reserved(0, 2), one[1]);
        }
        LargePages y = Edge.claimed();
        Desk.law(y, "wants if free=0 and has 2=0 then 1 else 16 end;");
        Desk.due("ahead of the preemption", y.touch(2, 0), 1);
        Desk.due("of one page", y.reserved(1, 2), 1);
        Desk.due("free then", y.wants(2, 1), 16);
    }

    private static void room() {
        Edge.terms("the lowest BLOCK of so many FREE FRAMES");
        LargePages x = Desk.with(1, 32, 4, 2);
        Desk.due("one", x.touch(0, 0), 0);
        Desk.due("sixteen from a multiple on", x.touch(1, 0), 16);
        Desk.due("four from a multiple on", x.touch(2, 0), 4);
        Desk.due("the next one", x.touch(3, 0), 1);
        Desk.due("the next one", x.touch(3, 1), 2);
        Desk.due("the next sixteen", x.touch(1, 31), 47);
        x.drop(0);
        Desk.due("the lowest again", x.touch(0, 0), 0);

        Edge.terms("without, by PREEMPTION, if that can be, the lowest one then");
        LargePages y = Desk.with(1, 32, 32, 32);
        y.touch(0, 0);
        y.touch(1, 0);
        y.touch(1, 16);
        y.touch(2, 0);
        Desk.due("no 16, but 4 are free", y.touch(2, 16), 4);
        y.touch(2, 20);
        y.touch(2, 24);
        Desk.due("three frames are free", y.is(3), 3);
        Desk.due("no block of 4", y.holes(4), 0);
        Desk.due("four by preemption ahead of one that is free", y.would(2, 31, 0), 4);
        Desk.due("the second block of the broken one", y.touch(2, 31), 23);
        Desk.line(y, 7, 7, 1, 1, 0);
        Desk.line(y, 8, 7, 0, 2, 28);
        Desk.due("the next is free without", y.touch(3, 0), 24);
        Desk.due("no preemption more", y.ledger(1), 1);
        Desk.due("one that is free is lower", y.touch(0, 0), 0);
    }

    private static void noRoom() {
        Edge.terms("none of these: no room.");
        LargePages x = Edge.packed();
        Desk.due("all is there", x.touch(2, 0), -1);
        x.undo();
        Desk.due("one is absent: room for one", x.would(2, 0, 0), 1);
        Desk.due("the last frame", x.touch(2, 0), 63);
        Desk.due("and no more", x.touch(2, 1), -1);
        Desk.due("not even its own that was", x.touch(1, 31), -1);
        LargePages y = Edge.claimed();
        Desk.law(y, "spares 0;");
        Desk.due("all are spared", y.touch(2, 0), -1);
        Desk.due("in a reservation there is room", y.touch(0, 1), 1);

        Edge.terms("an ABSENT PAGE has its FAULT first (no room: it can't be, nothing is done)");
        String stand = Edge.stand(y);
        Desk.due("touch", y.touch(2, 0), -1);
        Desk.due("write", y.write(3, 31, 9), -1);
        Edge.same(y, stand);
    }

    private static void behindAFault() {
        Edge.terms("is it in a RESERVATION, it is in its FRAME there");
        LargePages x = Desk.with(32);
        x.touch(0, 31);
        Desk.due("the first", x.touch(0, 16), 0);
        Desk.due("nothing more is reserved", x.ledger(0), 1);

        Edge.terms("The PAGE is there then, not DIRTY, VALUE as SAVED, LEVEL 1, its RESERVATION's TIME as it is; then it is PROMOTED where it can be.");
        x.write(0, 17, 9);
        x.sweep(0);
        x.write(0, 17, 8);
        x.drop(0);
        x.touch(0, 17);
        Desk.due("not dirty", x.page(0, 17, 1), 0);
        Desk.due("value as saved", x.page(0, 17, 2), 9);
        Desk.due("level", x.page(0, 17, 4), 1);
        Desk.due("time", x.reserved(0, 4), 4);
        x.touch(0, 17);
        Desk.due("no fault: its time stays", x.reserved(0, 4), 4);
        x.touch(0, 18);
        Desk.due("the latest fault", x.reserved(0, 4), 6);
        x.touch(0, 19);
        Desk.due("three are there", x.page(0, 19, 4), 1);
        x.touch(0, 16);
        Desk.due("promoted", x.page(0, 19, 4), 4);
    }

    private static void victims() {
        Edge.terms("of RESERVATIONS with an ABSENT PAGE, without a PINNED one, that spares lets go, and that have a BLOCK of n of their FRAMES with no PAGE in it");
        LargePages x = Edge.packed();
        Desk.due("none has an absent page", x.victim(1), -1);
        x.undo();
        Desk.due("the last has", x.victim(1), 48);
        Desk.due("but no block of 4", x.victim(4), -1);
        x.undo();
        x.undo();
        Desk.due("three of 4 are absent", x.victim(4), -1);
        x.undo();
        Desk.due("four of 4 are", x.victim(4), 48);
        Desk.due("sixteen never", x.victim(16), -1);
        Desk.law(x, "spares span-16;");
        Desk.due("spared", x.victim(1), -1);
        LargePages y = Desk.with(32);
        for (int page : new int[] {2, 7, 9, 13}) {
            y.touch(0, page);
        }
        Desk.due("a page in each block of 4", y.victim(4), -1);
        Desk.due("for one", y.victim(1), 0);

        Edge.terms("the one of the least TIME");
        LargePages z = Edge.claimed();
        Desk.due("the first fault", z.victim(1), 0);
        z.touch(0, 0);
        Desk.due("a use is no fault", z.victim(1), 0);
        z.touch(0, 15);
        Desk.due("a fault is", z.victim(1), 16);
        z.touch(0, 31);
        z.touch(1, 31);
        Desk.due("higher frames, less time", z.victim(1), 32);
        Desk.law(z, "spares 4-idle;");
        Desk.due("the least that is let go: idle is 6, 3, 2 and 1", z.victim(1), 0);
    }

    private static void broken() {
        Edge.terms("It is BROKEN: (of 16) each of its BLOCKS of 4 that are all there is a RESERVATION, each other PAGE that is there is one of 1 (their TIME, LEVELS stay), other FRAMES are FREE.");
        LargePages x = Edge.packed();
        x.undo();
        x.touch(2, 0);
        Desk.due("two of 16, two and four of 4, three and one of 1", x.reserved(-1, 0), 10);
        Desk.reservation(x, 3, 1, 16, 4, 48, 62, 4);
        Desk.reservation(x, 5, 1, 24, 4, 56, 62, 4);
        Desk.reservation(x, 6, 1, 28, 1, 60, 62, 1);
        Desk.reservation(x, 8, 1, 30, 1, 62, 62, 1);
        Desk.reservation(x, 9, 2, 0, 1, 63, 63, 1);
        Desk.due("levels stay", x.page(1, 27, 4), 4);
        Desk.due("levels stay", x.page(1, 28, 4), 1);
        Desk.due("nothing is free", x.is(3), 0);
        LargePages y = Desk.with(4, 32, 32, 32);
        y.touch(0, 1);
        y.touch(0, 3);
        Desk.touch(y, 1, 0, 32);
        Desk.touch(y, 2, 0, 16);
        Desk.law(y, "wants 1;");
        Desk.touch(y, 3, 0, 12);
        Desk.due("all frames are taken", y.is(3), 0);
        Desk.due("of 4", y.victim(1), 0);
        Desk.due("its first frame", y.touch(3, 12), 0);
        Desk.reservation(y, 1, 0, 1, 1, 1, 1, 1);
        Desk.due("free", y.frame(2), -1);
        Desk.reservation(y, 2, 0, 3, 1, 3, 1, 1);
        LargePages z = Edge.claimed();
        z.touch(2, 0);
        Desk.reservation(z, 0, 0, 0, 1, 0, 0, 1);
        Desk.due("eleven are free", z.is(3), 11);
        Desk.due("its page has no reservation any more", z.would(0, 1, 0), 1);
        LargePages w = Desk.with(32, 32, 32);
        w.touch(0, 1);
        Desk.touch(w, 0, 4, 4);
        w.touch(0, 12);
        w.touch(0, 16);
        w.touch(1, 0);
        w.touch(1, 16);
        Desk.due("the third block of 4 is clear", w.touch(2, 0), 8);
        Desk.due("the first frame is free", w.frame(0), -1);
        Desk.reservation(w, 0, 0, 1, 1, 1, 5, 1);
        Desk.reservation(w, 1, 0, 4, 4, 4, 5, 4);
        Desk.reservation(w, 2, 2, 0, 4, 8, 9, 1);
        Desk.reservation(w, 3, 0, 12, 1, 12, 5, 1);
        Desk.due("the last frame is free", w.frame(15), -1);
    }

    private static void promotedToFour() {
        Edge.terms("if its BLOCK of 4 is in one RESERVATION and all there, of LEVEL 1, all DIRTY or none: LEVEL 4");
        LargePages x = Desk.with(32);
        Desk.touch(x, 0, 28, 3);
        Desk.due("three", x.page(0, 28, 4), 1);
        x.touch(0, 31);
        Desk.due("four, the last block", x.page(0, 28, 4), 4);
        LargePages singles = Desk.with(4);
        Desk.law(singles, "wants 1;");
        Desk.touch(singles, 0, 0, 4);
        singles.sweep(0);
        Desk.due("four reservations", singles.page(0, 0, 4), 1);
        for (int dirty = 0; dirty <= 4; dirty++) {
            LargePages y = Desk.with(4);
            Desk.write(y, 0, 0, dirty, 1);
            Desk.touch(y, 0, dirty, 4 - dirty);
            Desk.due(dirty + " of 4 are dirty", y.page(0, 3, 4), dirty == 0 || dirty == 4 ? 4 : 1);
            Desk.due(dirty + " of 4 are dirty", y.ledger(2), dirty == 0 || dirty == 4 ? 1 : 0);
        }
        LargePages small = Desk.with(7);
        Desk.touch(small, 0, 4, 3);
        Desk.due("a block that is not all in the object", small.page(0, 6, 4), 1);
    }

    private static void promotedToSixteen() {
        Edge.terms("then, if its BLOCK of 16 is in one RESERVATION, all of LEVEL 4, all DIRTY or none: LEVEL 16.");
        LargePages x = Desk.with(32);
        Desk.touch(x, 0, 16, 15);
        Desk.due("fifteen", x.page(0, 16, 4), 4);
        x.touch(0, 31);
        Desk.due("sixteen, the last block", x.page(0, 16, 4), 16);
        Desk.due("both are written down", x.ledger(2), 5);
        LargePages fours = Desk.with(16);
        Desk.law(fours, "wants 4;");
        Desk.touch(fours, 0, 0, 16);
        fours.sweep(0);
        Desk.due("four reservations", fours.page(0, 0, 4), 4);
        for (int dirty = 0; dirty <= 16; dirty += 4) {
            LargePages y = Desk.with(16);
            Desk.write(y, 0, 0, dirty, 1);
            Desk.touch(y, 0, dirty, 16 - dirty);
            Desk.due(dirty + " of 16 are dirty", y.page(0, 15, 4), dirty == 0 || dirty == 16 ? 16 : 4);
        }
        LargePages z = Desk.with(16);
        Desk.write(z, 0, 0, 15, 1);
        z.touch(0, 15);
        Desk.due("one of 16 is not dirty", z.page(0, 0, 4), 4);
        Desk.due("its block", z.page(0, 12, 4), 1);
        z.write(0, 15, 1);
        Desk.due("all are", z.page(0, 0, 4), 16);
    }

    private static void demoted() {
        Edge.terms("is it of LEVEL 16, all of its BLOCK of 16 are of LEVEL 4; then, is it of LEVEL 4, all of its BLOCK of 4 of LEVEL 1.");
        LargePages x = Desk.with(32);
        Desk.touch(x, 0, 0, 32);
        x.write(0, 31, 1);
        int[] due = {16, 16, 4, 4, 1, 1};
        int[] pages = {0, 15, 16, 27, 28, 31};
        for (int i = 0; i < pages.length; i++) {
            Desk.due("level of " + pages[i], x.page(0, pages[i], 4), due[i]);
        }
        Desk.due("from 16, from 4", x.ledger(3), 2);
        x.write(0, 16, 1);
        Desk.due("from 4 alone", x.ledger(3), 3);
        Desk.due("its block", x.page(0, 19, 4), 1);
        Desk.due("the next block", x.page(0, 20, 4), 4);
        x.write(0, 17, 1);
        Desk.due("from 1: nothing", x.ledger(3), 3);
    }

    private static void touched() {
        Edge.terms("USED is TIME, TIME one more.");
        LargePages x = Desk.with(1);
        x.touch(0, 0);
        Desk.due("used at 0", x.page(0, 0, 5), 0);
        Desk.due("time", x.is(0), 1);
        x.touch(0, 0);
        Desk.due("used at 1", x.page(0, 0, 5), 1);
        Desk.due("time", x.is(0), 2);
        Desk.due("the fault was at 0", x.reserved(0, 4), 0);
    }

    private static void written() {
        Edge.terms("is it not DIRTY and VALUE another one, it is DEMOTED, DIRTY, and PROMOTED where it can be; VALUE is that.");
        LargePages x = Desk.with(4);
        Desk.touch(x, 0, 0, 4);
        x.write(0, 0, 0);
        Desk.due("the same value: not dirty", x.dirty(0), 0);
        Desk.due("the same value: not demoted", x.page(0, 0, 4), 4);
        Desk.due("it is a use", x.page(0, 0, 5), 4);
        x.write(0, 0, 1);
        Desk.due("another value: dirty", x.dirty(0), 1);
        Desk.due("demoted", x.page(0, 3, 4), 1);
        Desk.write(x, 0, 1, 3, 1);
        Desk.due("promoted when all are dirty", x.page(0, 0, 4), 4);
        int lines = x.book(-1, 0);
        x.write(0, 0, 2);
        Desk.due("dirty already: not demoted", x.page(0, 0, 4), 4);
        Desk.due("nothing is written down", x.book(-1, 0), lines);
        x.write(0, 0, 0);
        Desk.due("as saved, but dirty yet", x.dirty(0), 15);
        LargePages one = Desk.with(1);
        one.write(0, 0, 0);
        Desk.due("at its fault, the same value", one.dirty(0), 0);
        one.write(0, 0, 99);
        Desk.due("the greatest value", one.page(0, 0, 2), 99);
    }

    private static void copied() {
        Edge.terms("COPIED (a STEP whatever comes of it; nobody is LET GO yet)");
        LargePages y = Edge.claimed();
        Desk.law(y, "spares 0;");
        y.copy(0, 0, 1, 0);
        int steps = y.about(3);
        Desk.due("neither", y.copy(2, 0, 0, 0), 0);
        Desk.due("a step", y.about(3), steps + 1);
        Desk.due("nobody any more", y.let(-1), 0);
        y.undo();
        Desk.due("taken back: two again", y.let(-1), 2);

        Edge.terms("PAGE p of a is TOUCHED (no room: that is all) and PINNED, then PAGE q of b is TOUCHED (no room: that is all) and PINNED");
        Desk.due("just the first", y.copy(0, 1, 2, 0), 1);
        Desk.due("it had its fault", y.page(0, 1, 0), 1);
        Desk.due("one use", y.is(0), 8);
        Desk.due("its frame is let go", y.let(0), 1);
        Desk.due("alone", y.let(-1), 1);

        Edge.terms("then q is WRITTEN with p's VALUE (which TOUCHES it again); then those PINNED are LET GO, the latest first: their FRAMES.");
        LargePages z = Desk.with(32, 32);
        z.write(0, 31, 99);
        Desk.due("both", z.copy(0, 31, 1, 0), 2);
        Desk.due("p is used once", z.page(0, 31, 5), 1);
        Desk.due("q is used twice", z.page(1, 0, 5), 3);
        Desk.due("q's fault was at its first use", z.reserved(1, 4), 2);
        Desk.due("value", z.page(1, 0, 2), 99);
        Desk.due("dirty", z.page(1, 0, 1), 1);
        Desk.due("time", z.is(0), 4);
        Desk.due("the latest first", z.let(0), 16);
        Desk.due("then the first", z.let(1), 15);
        z.copy(1, 1, 0, 0);
        Desk.due("a value as it was: not dirty", z.page(0, 0, 1), 0);
    }

    private static void pinned() {
        Edge.terms("(PINNED ones are so only within.)");
        LargePages x = Desk.with(32, 32, 32);
        Desk.touch(x, 0, 0, 32);
        Desk.touch(x, 1, 0, 17);
        Desk.due("the one victim", x.victim(4), 48);
        Desk.due("it is pinned", x.copy(1, 16, 2, 0), 1);
        Desk.due("it is whole yet", x.reserved(3, 2), 16);
        Desk.due("not pinned behind it", x.victim(4), 48);
        Desk.due("touch", x.touch(2, 0), 52);
        LargePages y = Edge.claimed();
        Desk.due("the eldest is pinned, the next is broken", y.copy(0, 0, 2, 0), 2);
        Desk.due("the eldest is whole", y.reserved(0, 2), 16);
        Desk.due("the next", y.page(2, 0, 0), 20);
        LargePages z = Edge.claimed();
        Desk.due("a page behind the eldest pins it not", z.copy(0, 16, 2, 0), 2);
        Desk.due("the eldest is broken", z.page(2, 0, 0), 4);
        LargePages w = Edge.claimed();
        w.touch(0, 1);
        Desk.due("a page ahead of it pins it not", w.copy(0, 15, 2, 0), 2);
        Desk.due("it is broken", w.page(2, 0, 0), 20);
    }

    private static void swept() {
        Edge.terms("each DIRTY PAGE by number: is VALUE unlike what is SAVED, that is SAVED; it is not DIRTY; then each PAGE that is there by number is PROMOTED where it can be.");
        LargePages x = Desk.with(32);
        Desk.touch(x, 0, 0, 32);
        x.write(0, 0, 9);
        x.write(0, 31, 9);
        x.write(0, 15, 9);
        x.write(0, 15, 0);
        Desk.due("the first and the last", x.sweep(0), 2);
        Desk.due("not saved: it is as saved", x.page(0, 15, 3), 0);
        Desk.due("not dirty", x.dirty(0), 0);
        Desk.due("promoted", x.entries(0), 2);
        int lines = x.book(-1, 0);
        int[] firsts = {0, 12, 0, 28, 16};
        for (int i = 0; i < firsts.length; i++) {
            Desk.line(x, lines - 5 + i, 36, 2, 0, firsts[i]);
        }
        Desk.due("again", x.sweep(0), 0);
        Desk.due("nothing is written down", x.book(-1, 0), lines);
        Desk.due("a step all the same", x.about(3), 30);
        LargePages y = Desk.with(32, 32);
        Desk.law(y, "wants if number=0 then 1 else 16 end;");
        Desk.touch(y, 0, 0, 4);
        Desk.touch(y, 1, 0, 1);
        y.sweep(0);
        Desk.due("the next object's reservation is not its own", y.page(0, 0, 4), 1);
    }

    private static void emptied() {
        Edge.terms("of BLOCKS of n FRAMES that are not all FREE and have no DIRTY PAGE in them");
        LargePages x = Desk.with(32, 32);
        Desk.due("all free", x.next(1), -1);
        x.write(0, 0, 1);
        Desk.due("a dirty page", x.next(16), -1);
        Desk.due("its block of 4", x.next(4), 4);
        Desk.due("its frame", x.next(1), 1);
        x.touch(1, 0);
        Desk.due("the other sixteen", x.next(16), 16);

        Edge.terms("the one in which the greatest USED of PAGES is least (no PAGE in it: -1), of like ones the lowest");
        LargePages y = Edge.claimed();
        Desk.due("used at 0", y.next(16), 0);
        y.touch(0, 15);
        Desk.due("its greatest is 4", y.next(16), 16);
        Desk.due("no page in it, the lowest", y.next(4), 4);
        Desk.due("no page in it, the lowest", y.next(1), 1);
        LargePages z = Desk.with(32);
        Desk.touch(z, 0, 0, 16);
        z.touch(0, 0);
        Desk.due("page 1 is used at 1", z.next(1), 1);
        Desk.due("its greatest is 16", z.next(4), 4);
        LargePages two = Desk.with(2);
        two.touch(0, 0);
        two.touch(0, 1);
        two.empty(1);
        Desk.due("a free frame counts not", two.next(1), 1);
    }

    private static void emptiedRuins() {
        Edge.terms("each RESERVATION that has a FRAME of it is undone: PAGES in those FRAMES are ABSENT, each other PAGE of it that is there is one of 1 (LEVEL 1, DIRTY or not as it was; its TIME stays), its other FRAMES are FREE.");
        LargePages x = Desk.with(32);
        Desk.touch(x, 0, 0, 16);
        Desk.write(x, 0, 8, 4, 7);
        x.touch(0, 0);
        Desk.due("the second block of 4", x.empty(4), 4);
        Desk.due("reservations of 1", x.reserved(-1, 0), 12);
        Desk.reservation(x, 0, 0, 0, 1, 0, 15, 1);
        Desk.reservation(x, 4, 0, 8, 1, 8, 15, 1);
        Desk.due("dirty as it was", x.dirty(0), 0xF00);
        Desk.due("level", x.page(0, 8, 4), 1);
        Desk.due("level of the absent", x.page(0, 4, 4), 0);
        Desk.due("used as it was", x.page(0, 7, 5), 7);
        Desk.due("free", x.is(3), 52);
        Desk.due("of those that are not dirty the eldest", x.next(4), 12);
        Desk.due("several reservations", x.empty(4), 4);
        Desk.due("the rest", x.empty(4), 4);
        Desk.due("just dirty ones are left", x.empty(1), -1);
        LargePages y = Desk.with(32);
        y.touch(0, 31);
        y.touch(0, 0);
        Desk.due("one frame of sixteen", y.empty(1), 0);
        Desk.due("its reservation is one of 1", y.reserved(0, 2), 1);
        Desk.due("the other is whole", y.reserved(1, 2), 16);
        Desk.due("fifteen are free", y.is(3), 47);
        Desk.line(y, 2, 2, 4, 0, 1);
        LargePages z = Desk.with(12);
        z.touch(0, 0);
        z.touch(0, 4);
        z.touch(0, 8);
        z.touch(0, 0);
        z.touch(0, 8);
        Desk.due("the middle one of three", z.empty(4), 1);
        Desk.reservation(z, 0, 0, 0, 4, 0, 0, 1);
        Desk.reservation(z, 1, 0, 8, 4, 8, 2, 1);
        Desk.due("reservations beside it stay", z.reserved(-1, 0), 2);
    }

    private static void dropped() {
        Edge.terms("DROPPED, an OBJECT: all its PAGES are ABSENT, not DIRTY, its RESERVATIONS gone. An ABSENT PAGE has the VALUE that is SAVED, LEVEL 0, USED as it was.");
        LargePages x = Desk.with(32, 32);
        Desk.write(x, 0, 0, 32, 5);
        x.sweep(0);
        Desk.write(x, 0, 0, 32, 6);
        Desk.touch(x, 1, 0, 32);
        Desk.due("nothing is free", x.is(3), 0);
        x.drop(0);
        Desk.due("there", x.there(0), 0);
        Desk.due("dirty", x.dirty(0), 0);
        for (int page : new int[] {0, 31}) {
            Desk.due("value", x.page(0, page, 2), 5);
            Desk.due("saved", x.page(0, page, 3), 5);
            Desk.due("level", x.page(0, page, 4), 0);
            Desk.due("used", x.page(0, page, 5), 32 + page);
        }
        Desk.due("its reservations", x.reserved(-1, 0), 2);
        Desk.due("the other's", x.reserved(0, 0), 1);
        x.drop(1);
        Desk.due("all is free", x.is(3), 64);
        Desk.due("no levels are left", x.reach(), 0);
        LargePages y = Desk.with(32);
        Desk.touch(y, 0, 0, 20);
        y.drop(0);
        Desk.due("no levels are left", y.reach() + y.entries(0), 0);
        y.touch(0, 0);
        y.touch(0, 16);
        Desk.due("level, once 16", y.page(0, 0, 4), 1);
        Desk.due("level, once 4", y.page(0, 16, 4), 1);
        Desk.due("entries", y.entries(0), 2);
    }

    /** The day behind years, whose draws are known, on pages that are all there: what is drawn is what is done. */
    private static void draws() {
        Edge.terms("a draw by 8 (X mod 8, X being (X * 761 + 619) mod 31121 then), an OBJECT, a PAGE drawn (by how many): 0 to 2 TOUCHED, 3 to 5 WRITTEN (a VALUE drawn by 100), 6 SWEPT, 7 EMPTIED (a draw by 3: of 1, 4, 16) (each if it can be).");
        int[] seen = new int[11];
        for (int seed = 0; seed < 300; seed++) {
            LargePages x = onePast(seed);
            LargePages y = onePast(seed);
            int[] drawn = new int[5];
            drawn[0] = x.is(1);
            for (int i = 1; i < 5; i++) {
                drawn[i] = (drawn[i - 1] * 761 + 619) % 31121;
            }
            int what = drawn[0] % 8;
            int object = drawn[1] % 2;
            int page = drawn[2] % (object == 0 ? 32 : 5);
            int done = 1;
            if (what < 3) {
                y.touch(object, page);
            } else if (what < 6) {
                y.write(object, page, drawn[3] % 100);
            } else if (what == 6) {
                y.sweep(object);
            } else {
                done = y.empty(new int[] {1, 4, 16}[drawn[3] % 3]) < 0 ? 0 : 1;
                seen[8 + drawn[3] % 3] += done;
            }
            seen[what] += done;
            Desk.due("the day of seed " + seed, x.day(1), done);
            Desk.due("X", x.is(1), drawn[what < 3 || what == 6 ? 3 : 4]);
            Desk.due("time", x.is(0), y.is(0));
            Desk.due("free", x.is(3), y.is(3));
            for (int field = 0; field < 6; field++) {
                Desk.due("page " + field, x.page(object, page, field), y.page(object, page, field));
            }
            Desk.due("there", x.there(0), y.there(0));
            Desk.due("digest", x.digest(1), y.digest(1));
        }
        for (int i = 0; i < seen.length; i++) {
            Desk.due("draws of " + i, seen[i] > 5, true);
        }
        LargePages last = Desk.with(1, 1, 1, 32);
        int touched = 0;
        for (int i = 0; i < 400 && touched != 15; i++) {
            last.day(1);
            touched |= (last.page(0, 0, 5) >= 0 ? 1 : 0) | (last.page(1, 0, 5) >= 0 ? 2 : 0) | (last.page(3, 0, 5) >= 0 ? 4 : 0)
                    | (last.page(3, 31, 5) >= 0 ? 8 : 0);
        }
        Desk.due("the first and the last objects and pages are drawn", touched, 15);
    }

    private static LargePages onePast(int seed) {
        LargePages x = Desk.with(32, 5);
        Desk.touch(x, 0, 0, 32);
        Desk.touch(x, 1, 0, 5);
        x.years(seed, 1);
        x.write(0, 7, 1 + seed % 99);
        return x;
    }

    private static void daysThatCannotBe() {
        Edge.terms("A DAY: without OBJECTS nothing");
        LargePages x = new LargePages();
        Desk.due("day(2)", x.day(2), 0);
        Desk.due("nothing is drawn", x.is(1), 499);
        Desk.due("the days pass", x.is(2), 2);
        Desk.due("nothing is written down", x.book(-1, 0), 0);

        Edge.terms("(each if it can be). DAY is one more");
        LargePages y = Edge.packed();
        y.object(32);
        Desk.due("no room for what is drawn", y.day(1), 0);
        Desk.due("the day passes", y.is(2), 1);
        Desk.due("all was drawn", y.is(1), 16419);
        Desk.due("time stays", y.is(0), 64);
        // Seed 6 makes X 511: 7 of 8, so something is to be emptied, and all is free.
        LargePages z = Desk.with(1);
        Desk.due("nothing to be emptied", z.years(6, 1), 0);
        Desk.due("the day passes", z.is(2), 1);
        Desk.due("nothing is written down", z.book(-1, 0), 0);
    }

    private static void lastDay() {
        Edge.terms("DAY is one more (at 9999 none can pass).");
        LargePages x = Edge.onDay(9998);
        x.object(4);
        x.day(1);
        Desk.due("the last", x.is(2), 9999);
        int drawn = x.is(1);
        Desk.due("none can pass", x.day(1), -1);
        Desk.due("X stays", x.is(1), drawn);
        Desk.due("day", x.is(2), 9999);
    }

    private static void writtenDown() {
        Edge.terms("Reserved, preempted (its OBJECT, first PAGE), promoted (to 4 or 16: that BLOCK's), demoted (from 16, from 4: likewise), emptied, dropped are written down, each as it is done.");
        LargePages x = Edge.claimed();
        x.drop(3);
        Desk.line(x, 4, 4, 5, 3, 0);
        x.touch(3, 31);
        Desk.line(x, 5, 4, 1, 0, 0);
        Desk.line(x, 6, 4, 0, 3, 28);
        Desk.touch(x, 3, 28, 3);
        Desk.line(x, 7, 7, 2, 3, 28);
        x.write(3, 31, 1);
        Desk.line(x, 8, 9, 3, 3, 28);
        x.empty(16);
        Desk.line(x, 9, 9, 4, 16, 16);
        x.sweep(3);
        Desk.line(x, 10, 9, 2, 3, 28);
        Desk.due("eleven", x.book(-1, 0), 11);
        x.touch(3, 31);
        x.empty(5);
        x.touch(3, 32);
        Desk.due("no line of a use, nor of what can't be", x.book(-1, 0), 11);
    }

    private static void steps() {
        Edge.terms("STEPS: TOUCHED, WRITTEN, COPIED (whatever of it could be), SWEPT, EMPTIED, DROPPED, a DAY (each), YEARS (see V)");
        LargePages x = Desk.with(32);
        x.touch(0, 0);
        x.write(0, 1, 1);
        x.copy(0, 0, 0, 2);
        x.sweep(0);
        x.empty(1);
        x.drop(0);
        Desk.due("six", x.about(3), 6);
        x.day(3);
        Desk.due("each day", x.about(3), 9);
        x.years(0, 40);
        Desk.due("years are one", x.about(3), 10);
        x.image();
        x.object(3);
        Desk.text(x, "day 2;");
        x.by(0);
        x.said(0, 1);
        Desk.due("to tell is none", x.about(3), 10);
        x.played(0);
        Desk.due("by a script, each", x.about(3), 12);

        Edge.terms("the latest 30 can be taken back, the latest first");
        LargePages y = Desk.with(32);
        for (int i = 0; i < 32; i++) {
            y.touch(0, i);
            Desk.due("steps", y.about(3), Math.min(30, i + 1));
        }
        for (int i = 0; i < 30; i++) {
            Desk.due("undo", y.undo(), 29 - i);
            Desk.due("the latest first", y.there(0), (1L << (31 - i)) - 1);
        }
        Desk.due("no more", y.undo(), -1);
        Desk.due("the first two stay", y.there(0), 3);
        for (int i = 0; i < 31; i++) {
            y.drop(0);
        }
        Desk.due("thirty again", y.about(3), 30);
        y.undo();
        y.touch(0, 5);
        Desk.due("thirty again", y.about(3), 30);
        LargePages z = Edge.packed();
        Desk.due("thirty", z.about(3), 30);
        Desk.due("what can't be", z.touch(2, 0), -1);
        Desk.due("what can't be", z.write(2, 0, 1), -1);
        for (int i = 29; i >= 0; i--) {
            Desk.due("takes no step away", z.undo(), i);
        }
        Desk.due("not the eldest one either", z.there(1), 3);
        Desk.due("time", z.is(0), 34);
    }

    private static void takenBack() {
        Edge.terms("(all but what is told is as ahead of it, SAVED and who was LET GO, too; an OBJECT told since is as at first)");
        String[] deeds = {"touch", "write", "copy", "sweep", "empty", "drop", "day", "years"};
        for (String deed : deeds) {
            LargePages x = Desk.with(32, 32);
            x.write(0, 0, 9);
            x.copy(0, 0, 0, 31);
            String stand = Edge.stand(x);
            switch (deed) {
                case "touch": x.touch(1, 31); break;
                case "write": x.write(1, 31, 99); break;
                case "copy": x.copy(0, 31, 1, 31); break;
                case "sweep": x.sweep(0); break;
                case "empty": x.empty(1); break;
                case "drop": x.drop(0); break;
                case "day": x.day(1); break;
                default: x.years(9999, 40); break;
            }
            Desk.due("a step: " + deed, Edge.stand(x).equals(stand), false);
            Desk.due("undo of " + deed, x.undo(), 2);
            Edge.same(x, stand);
        }
        LargePages y = Desk.with(32);
        y.touch(0, 0);
        y.object(32);
        y.write(1, 31, 99);
        y.sweep(1);
        y.undo();
        y.undo();
        y.undo();
        Desk.due("it is told yet", y.about(0), 2);
        Desk.due("absent", y.there(1), 0);
        Desk.due("value", y.page(1, 31, 2), 0);
        Desk.due("saved", y.page(1, 31, 3), 0);
        Desk.due("never used", y.page(1, 31, 5), -1);
        Desk.due("savings", y.is(4), 0);
        Desk.due("it can be touched", y.touch(1, 31), 15);
    }

    private static void playedDays() {
        byHand();
        Edge.terms("one that can't be ends it (of so many DAYS those that can pass do): its number among all CLAUSES (from 0); what was done stays.");
        LargePages x = Edge.onDay(9990);
        Desk.text(x, "wants 1;day 9;object 4;");
        Desk.text(x, "wants 1;day 10;object 4;");
        Desk.text(x, "spares 1;wants 1;day 60;day 1;");
        x.image();
        Desk.due("up to the last", x.played(1), -1);
        Desk.due("day", x.is(2), 9999);
        Desk.due("what is behind is done", x.about(0), 1);
        Desk.due("none can pass", x.played(1), 1);
        Desk.due("what is behind is not done", x.about(0), 1);
        x.back();
        x.day(1);
        Desk.due("one too many", x.played(2), 1);
        Desk.due("those that can pass do", x.is(2), 9999);
        Desk.due("what is behind is not done", x.about(0), 0);
        x.back();
        Desk.due("many too many", x.played(3), 2);
        Desk.due("those that can pass do", x.is(2), 9999);
        Desk.due("steps", x.about(3), 30);
    }

    private static void byHand() {
        Edge.terms("PLAYED by a TEXT: its CLAUSES but laws, in their order, as by hand");
        LargePages x = new LargePages();
        LargePages y = new LargePages();
        String text = "object 32;wants 1;touch 31 of 0;object 1;write 0 of 1 by 99;sweep 1;spares 0;day 2;empty 4;drop 1;";
        Desk.text(x, text);
        Desk.text(y, text);
        Desk.due("played", x.played(0), -1);
        y.object(32);
        y.touch(0, 31);
        y.object(1);
        y.write(1, 0, 99);
        y.sweep(1);
        y.day(2);
        y.empty(4);
        y.drop(1);
        Edge.same(x, Edge.stand(y));
        Desk.due("no law rules by that", x.about(2), -1);
    }

    private static void years() {
        Edge.terms("X is SEED (0 .. 9999) * 2 + 499; n times (1 .. 40) a DAY (if it can pass). It is one STEP: TIME.");
        LargePages x = new LargePages();
        Desk.due("the least", x.years(0, 1), 0);
        Desk.due("X", x.is(1), 499);
        Desk.due("day", x.is(2), 1);
        Desk.due("the greatest", x.years(9999, 40), 0);
        Desk.due("X", x.is(1), 20497);
        Desk.due("day", x.is(2), 41);
        Desk.due("two steps", x.about(3), 2);
        LargePages y = Edge.onDay(9998);
        y.object(32);
        y.years(0, 40);
        Desk.due("one day can pass", y.is(2), 9999);
        Desk.due("its draws alone", y.is(1), 16419);
        int steps = y.about(3);
        y.undo();
        Desk.due("one step", y.is(2) * 100 + y.about(3), 999800 + steps - 1);
        y.day(1);
        int time = y.is(0);
        Desk.due("none can pass", y.years(9999, 40), time);
        Desk.due("X all the same", y.is(1), 20497);
        Desk.due("a step all the same", y.undo() >= 0 && y.is(1) == 16419, true);
    }
}
