import java.util.Arrays;

/**
 * A large-page manager: reservations made at first fault, promoted, demoted, preempted and emptied,
 * under laws that texts tell. The numbered promises of DOC.md say what each call answers.
 */
public final class LargePages {
    public static final int NONE = -1;

    private static final int NO_SUCH = -2;
    private static final int NO_FRAME = -3;
    private static final int FRAMES = 64;
    private static final int OBJECTS = 4;
    private static final int PAGES = 32;
    private static final int LARGEST = 16;
    private static final int VALUES = 100;
    private static final int LAST_DAY = 9999;
    private static final int MOST_DAYS = 60;
    private static final int MOST_YEARS = 40;
    private static final int LAST_SEED = 9999;
    private static final int FIRST_X = 499;
    private static final int DIGEST = 9973;

    private static final int RESERVED = 0;
    private static final int PREEMPTED = 1;
    private static final int PROMOTED = 2;
    private static final int DEMOTED = 3;
    private static final int EMPTIED = 4;
    private static final int DROPPED = 5;

    private final World now = new World();
    private final Told told = new Told();
    private final Steps steps = new Steps();
    private final World pictured = new World();
    private final Told picturedTold = new Told();
    private final Steps picturedSteps = new Steps();
    private final World future = new World();
    private final Keeper keeper;
    private final Keeper prophet;
    private final Tape tape = new Tape();
    private final Reader reader;

    public LargePages() {
        keeper = new Keeper(now, told);
        prophet = new Keeper(future, told);
        reader = new Reader(tape);
    }

    public int object(int size) {
        if (size < 1 || size > PAGES || told.objects >= OBJECTS) {
            return NONE;
        }
        told.sizes[told.objects] = size;
        told.objects++;
        return told.objects - 1;
    }

    public int feed(int a, int b, int c, int d, int e) {
        if (tape.length + 20 > Tape.LONGEST) {
            return NONE;
        }
        tape.add(a);
        tape.add(b);
        tape.add(c);
        tape.add(d);
        tape.add(e);
        return tape.length;
    }

    public int end(int n) {
        if (n < 0 || n > tape.length) {
            return NONE;
        }
        tape.length = n;
        return n;
    }

    public int text() {
        if (told.textCount >= Told.TEXTS) {
            return NONE;
        }
        Text made = reader.read();
        tape.length = 0;
        if (made == null) {
            return NONE;
        }
        told.texts[told.textCount] = made;
        told.textCount++;
        return told.textCount - 1;
    }

    public int fault(int what) {
        if (!reader.hasRead || what < 0 || what > 1) {
            return NONE;
        }
        return what == 0 ? reader.wrong : reader.where;
    }

    public boolean by(int text) {
        if (text != NONE && !isText(text)) {
            return false;
        }
        told.ruling = text;
        return true;
    }

    public int touch(int object, int page) {
        if (!isPage(object, page)) {
            return NONE;
        }
        steps.prepare(now);
        int frame = keeper.use(object, page);
        if (frame != NONE) {
            steps.commit();
        }
        return frame;
    }

    public int write(int object, int page, int value) {
        if (!isPage(object, page) || value < 0 || value >= VALUES) {
            return NONE;
        }
        steps.prepare(now);
        int frame = keeper.use(object, page);
        if (frame != NONE) {
            keeper.settle(object, page, value);
            steps.commit();
        }
        return frame;
    }

    public int copy(int a, int p, int b, int q) {
        if (!isPage(a, p) || !isPage(b, q) || (a == b && p == q)) {
            return NONE;
        }
        steps.prepare(now);
        int done = keeper.duplicate(a, p, b, q);
        steps.commit();
        return done;
    }

    public int sweep(int object) {
        if (!isObject(object)) {
            return NONE;
        }
        steps.prepare(now);
        int saved = keeper.sweepOut(object);
        steps.commit();
        return saved;
    }

    public int empty(int frames) {
        if (!isBlock(frames)) {
            return NONE;
        }
        steps.prepare(now);
        int absent = keeper.emptyOut(frames);
        if (absent != NONE) {
            steps.commit();
        }
        return absent;
    }

    public boolean drop(int object) {
        if (!isObject(object)) {
            return false;
        }
        steps.prepare(now);
        keeper.dropAll(object);
        steps.commit();
        return true;
    }

    public int day(int n) {
        if (n < 1 || n > MOST_DAYS || now.day + n > LAST_DAY) {
            return NONE;
        }
        return passDays(n);
    }

    public int played(int text) {
        if (!isText(text)) {
            return NO_SUCH;
        }
        Text script = told.texts[text];
        int count = script == null ? 0 : script.clauseCount();
        for (int i = 0; i < count; i++) {
            int a = script.figure(i, 1);
            int b = script.figure(i, 2);
            boolean done = true;
            switch (script.figure(i, 0)) {
                case Reader.OBJECT: done = object(a) != NONE; break;
                case Reader.TOUCH: done = touch(b, a) != NONE; break;
                case Reader.WRITE: done = write(b, a, script.figure(i, 3)) != NONE; break;
                case Reader.SWEEP: done = sweep(a) != NONE; break;
                case Reader.EMPTY: done = empty(a) != NONE; break;
                case Reader.DROP: done = drop(a); break;
                case Reader.DAY:
                    done = now.day + a <= LAST_DAY;
                    passDays(a);
                    break;
                default: break;
            }
            if (!done) {
                return i;
            }
        }
        return NONE;
    }

    public int years(int seed, int n) {
        if (seed < 0 || seed > LAST_SEED || n < 1 || n > MOST_YEARS) {
            return NONE;
        }
        steps.prepare(now);
        now.x = seed * 2 + FIRST_X;
        for (int i = 0; i < n && now.day < LAST_DAY; i++) {
            keeper.passDay();
        }
        steps.commit();
        return now.time;
    }

    public int undo() {
        return steps.takeBack(now) ? steps.count : NONE;
    }

    public int page(int object, int page, int what) {
        if (!isPage(object, page)) {
            return NO_SUCH;
        }
        int id = object * PAGES + page;
        switch (what) {
            case 0: return now.frameOf(object, page);
            case 1: return now.dirty[object] >>> page & 1;
            case 2: return now.value[id];
            case 3: return now.saved[id];
            case 4: return now.levelOf(object, page);
            case 5: return now.used[id];
            default: return NO_SUCH;
        }
    }

    public int frame(int frame) {
        return frame < 0 || frame >= FRAMES ? NO_FRAME : now.inFrame(frame);
    }

    public int reserved(int i, int what) {
        if (i == NONE) {
            return now.reservations();
        }
        int slot = now.slotNumbered(i);
        if (slot == NONE) {
            return NO_SUCH;
        }
        switch (what) {
            case 0: return now.home[slot] / PAGES;
            case 1: return now.home[slot] % PAGES;
            case 2: return now.span[slot];
            case 3: return slot;
            case 4: return now.since[slot];
            case 5: return now.holds(slot);
            default: return NO_SUCH;
        }
    }

    public int let(int i) {
        if (i == NONE) {
            return now.goneCount;
        }
        return i < 0 || i >= now.goneCount || i >= now.gone.length ? NO_SUCH : now.gone[i];
    }

    public int is(int what) {
        switch (what) {
            case 0: return now.time;
            case 1: return now.x;
            case 2: return now.day;
            case 3: return now.freeFrames();
            case 4: return now.savings;
            default: return NO_SUCH;
        }
    }

    public int book(int i, int what) {
        if (i == NONE) {
            return now.lineCount;
        }
        if (i < 0 || i >= now.lineCount || what < 0 || what > 3) {
            return NO_SUCH;
        }
        return now.read(i, what);
    }

    public int foretold(int n, int what) {
        if (n < 1 || n > MOST_DAYS || what < 0 || what > 2) {
            return NONE;
        }
        future.copyFrom(now);
        for (int i = 0; i < n && future.day < LAST_DAY; i++) {
            prophet.passDay();
        }
        if (what == 0) {
            return future.freeFrames();
        }
        if (what == 1) {
            return future.reservations();
        }
        int all = 0;
        for (int object = 0; object < told.objects; object++) {
            all += future.entriesOf(object);
        }
        return all;
    }

    public int would(int object, int page, int what) {
        if (!isPage(object, page) || what < 0 || what > 1) {
            return NONE;
        }
        if (now.isThere(object, page) || !keeper.findRoom(object, page)) {
            return NONE;
        }
        return what == 0 ? keeper.plannedSpan : keeper.plannedFrame;
    }

    public int victim(int frames) {
        return isBlock(frames) ? keeper.victimFor(frames) : NONE;
    }

    public int next(int frames) {
        return isBlock(frames) ? now.blockToEmpty(frames) : NONE;
    }

    public int entries(int object) {
        return isObject(object) ? now.entriesOf(object) : NONE;
    }

    public int ideal(int object) {
        if (!isObject(object)) {
            return NONE;
        }
        int size = told.sizes[object];
        return size / LARGEST + size % LARGEST / 4 + size % 4;
    }

    public int pages(int object, int page, int n) {
        if (!isPage(object, page) || !isBlock(n)) {
            return NONE;
        }
        return Integer.bitCount(now.there[object] & blockBits(page, n));
    }

    public int holes(int frames) {
        return isBlock(frames) ? now.freeBlocks(frames) : NONE;
    }

    public int reach() {
        int all = 0;
        for (int object = 0; object < told.objects; object++) {
            all += Integer.bitCount(now.four[object] | now.sixteen[object]);
        }
        return all;
    }

    public int spread() {
        int free = now.freeFrames();
        for (int n = LARGEST; n > 1; n /= 4) {
            int blocks = now.freeBlocks(n);
            if (blocks > 0) {
                return free - blocks * n;
            }
        }
        return 0;
    }

    public int digest(int object) {
        if (!isObject(object)) {
            return NONE;
        }
        int sum = 0;
        for (int page = 0; page < told.sizes[object]; page++) {
            sum = (31 * sum + now.value[object * PAGES + page]) % DIGEST;
        }
        return sum;
    }

    public int alike(int a, int b) {
        if (!isObject(a) || !isObject(b)) {
            return NONE;
        }
        int count = 0;
        for (int page = 0; page < told.sizes[a] && page < told.sizes[b]; page++) {
            if (now.value[a * PAGES + page] == now.value[b * PAGES + page]) {
                count++;
            }
        }
        return count;
    }

    public int eldest(int object) {
        if (!isObject(object)) {
            return NONE;
        }
        int best = NONE;
        for (int page = 0; page < told.sizes[object]; page++) {
            if (now.isThere(object, page)
                    && (best == NONE || now.used[object * PAGES + page] < now.used[object * PAGES + best])) {
                best = page;
            }
        }
        return best;
    }

    public long dirty(int object) {
        return isObject(object) ? now.dirty[object] & 0xFFFFFFFFL : NONE;
    }

    public long there(int object) {
        return isObject(object) ? now.there[object] & 0xFFFFFFFFL : NONE;
    }

    public boolean sound() {
        if (!now.framesAreApart()) {
            return false;
        }
        for (int object = 0; object < told.objects; object++) {
            for (int page = 0; page < told.sizes[object]; page++) {
                if (!now.isSound(object, page)) {
                    return false;
                }
            }
        }
        return true;
    }

    public int wants(int object, int page) {
        return isPage(object, page) ? keeper.wanted(told.ruler(), object, page) : NONE;
    }

    public boolean spares(int i) {
        int slot = now.slotNumbered(i);
        return slot != NONE && keeper.letsGo(slot);
    }

    public int said(int page, int wants) {
        if (page == NONE) {
            told.saidCount = 0;
            return 0;
        }
        if (!isPage(0, page) || wants < 1 || wants > LARGEST || told.saidCount >= Told.SAYINGS) {
            return NO_SUCH;
        }
        told.saidPages[told.saidCount] = page;
        told.saidWants[told.saidCount] = wants;
        told.saidCount++;
        return told.saidCount;
    }

    public int whose() {
        int bits = 0;
        for (int text = 0; text < told.textCount; text++) {
            if (agrees(told.texts[text])) {
                bits |= 1 << text;
            }
        }
        return bits;
    }

    public int ledger(int what) {
        if (what < RESERVED || what > DROPPED) {
            return NO_SUCH;
        }
        int count = 0;
        for (int i = 0; i < now.lineCount; i++) {
            if (now.read(i, 1) == what) {
                count++;
            }
        }
        return count;
    }

    public int image() {
        pictured.copyFrom(now);
        picturedTold.copyFrom(told);
        picturedSteps.copyFrom(steps);
        return now.time;
    }

    public int back() {
        now.copyFrom(pictured);
        told.copyFrom(picturedTold);
        steps.copyFrom(picturedSteps);
        return now.time;
    }

    public int about(int what) {
        switch (what) {
            case 0: return told.objects;
            case 1: return told.textCount;
            case 2: return told.ruling;
            case 3: return steps.count;
            case 4: return told.saidCount;
            case 5: return tape.length;
            default: return NO_SUCH;
        }
    }

    private boolean isObject(int object) {
        return object >= 0 && object < told.objects;
    }

    private boolean isPage(int object, int page) {
        return isObject(object) && page >= 0 && page < told.sizes[object];
    }

    private boolean isText(int text) {
        return text >= 0 && text < told.textCount;
    }

    /** Each day is a step of its own; those beyond the last day do not pass. */
    private int passDays(int n) {
        int done = 0;
        for (int i = 0; i < n && now.day < LAST_DAY; i++) {
            steps.prepare(now);
            done += keeper.passDay();
            steps.commit();
        }
        return done;
    }

    private boolean agrees(Text text) {
        for (int i = 0; i < told.saidCount; i++) {
            if (keeper.wanted(text, 0, told.saidPages[i]) != told.saidWants[i]) {
                return false;
            }
        }
        return true;
    }

    private static boolean isBlock(int n) {
        return n == 1 || n == 4 || n == LARGEST;
    }

    private static int blockBits(int page, int n) {
        return ((1 << n) - 1) << (page - page % n);
    }

    private static boolean allOrNone(int bits, int block) {
        return (bits & block) == 0 || (bits & block) == block;
    }

    /** All that steps change: a step is taken back by putting such a world in the place of another. */
    private static final class World {
        static final int LINES = 25;

        final int[] value = new int[OBJECTS * PAGES];
        final int[] saved = new int[OBJECTS * PAGES];
        final int[] used = new int[OBJECTS * PAGES];
        // A reservation stands at its first frame, its slot: home is 32 * object + first page there,
        // and a span of 0 says that none begins there.
        final int[] home = new int[FRAMES];
        final int[] span = new int[FRAMES];
        final int[] since = new int[FRAMES];
        // Bits by page, a row by object; a page that is there and in neither four nor sixteen is of level 1.
        final int[] there = new int[OBJECTS];
        final int[] dirty = new int[OBJECTS];
        final int[] four = new int[OBJECTS];
        final int[] sixteen = new int[OBJECTS];
        // A line is time, kind, object or frame, page or count in 17, 3, 6 and 5 bits: steps copy the book.
        final int[] lines = new int[LINES];
        final int[] gone = new int[2];
        int lineCount;
        int goneCount;
        int time;
        int x = FIRST_X;
        int day;
        int savings;

        World() {
            Arrays.fill(used, NONE);
        }

        void copyFrom(World other) {
            System.arraycopy(other.value, 0, value, 0, value.length);
            System.arraycopy(other.saved, 0, saved, 0, saved.length);
            System.arraycopy(other.used, 0, used, 0, used.length);
            System.arraycopy(other.home, 0, home, 0, FRAMES);
            System.arraycopy(other.span, 0, span, 0, FRAMES);
            System.arraycopy(other.since, 0, since, 0, FRAMES);
            System.arraycopy(other.there, 0, there, 0, OBJECTS);
            System.arraycopy(other.dirty, 0, dirty, 0, OBJECTS);
            System.arraycopy(other.four, 0, four, 0, OBJECTS);
            System.arraycopy(other.sixteen, 0, sixteen, 0, OBJECTS);
            System.arraycopy(other.lines, 0, lines, 0, LINES);
            System.arraycopy(other.gone, 0, gone, 0, gone.length);
            lineCount = other.lineCount;
            goneCount = other.goneCount;
            time = other.time;
            x = other.x;
            day = other.day;
            savings = other.savings;
        }

        void note(int what, int a, int b) {
            if (lineCount >= LINES) {
                System.arraycopy(lines, 1, lines, 0, LINES - 1);
                lineCount = LINES - 1;
            }
            lines[lineCount] = time << 14 | what << 11 | a << 5 | b;
            lineCount++;
        }

        int read(int i, int what) {
            switch (what) {
                case 0: return lines[i] >>> 14;
                case 1: return lines[i] >>> 11 & 7;
                case 2: return lines[i] >>> 5 & 63;
                default: return lines[i] & 31;
            }
        }

        boolean isThere(int object, int page) {
            return (there[object] >>> page & 1) == 1;
        }

        int frameOf(int object, int page) {
            int slot = isThere(object, page) ? slotOf(object, page) : NONE;
            return slot == NONE ? NONE : slot + object * PAGES + page - home[slot];
        }

        int levelOf(int object, int page) {
            if (!isThere(object, page)) {
                return 0;
            }
            if ((sixteen[object] >>> page & 1) == 1) {
                return LARGEST;
            }
            return (four[object] >>> page & 1) == 1 ? 4 : 1;
        }

        int entriesOf(int object) {
            int small = there[object] & ~four[object] & ~sixteen[object];
            return Integer.bitCount(sixteen[object]) / LARGEST + Integer.bitCount(four[object]) / 4
                    + Integer.bitCount(small);
        }

        void hold(int slot, int first, int n, int since) {
            home[slot] = first;
            span[slot] = n;
            this.since[slot] = since;
        }

        int reservations() {
            int count = 0;
            for (int slot = 0; slot < FRAMES; slot++) {
                if (span[slot] > 0) {
                    count++;
                }
            }
            return count;
        }

        int slotNumbered(int i) {
            int left = i;
            for (int slot = 0; slot < FRAMES && left >= 0; slot++) {
                if (span[slot] > 0) {
                    if (left == 0) {
                        return slot;
                    }
                    left--;
                }
            }
            return NONE;
        }

        int slotOf(int object, int page) {
            int id = object * PAGES + page;
            for (int slot = 0; slot < FRAMES; slot++) {
                if (home[slot] <= id && id < home[slot] + span[slot]) {
                    return slot;
                }
            }
            return NONE;
        }

        /** The pages of a reservation, as bits of its object. */
        int pageBits(int slot) {
            return ((1 << span[slot]) - 1) << (home[slot] % PAGES);
        }

        int reservedBits(int object) {
            int bits = 0;
            for (int slot = 0; slot < FRAMES; slot++) {
                if (span[slot] > 0 && home[slot] / PAGES == object) {
                    bits |= pageBits(slot);
                }
            }
            return bits;
        }

        int holds(int slot) {
            int inside = there[home[slot] / PAGES] >>> (home[slot] % PAGES);
            return Integer.bitCount(inside & ((1 << span[slot]) - 1));
        }

        long frameBits(int slot) {
            return ((1L << span[slot]) - 1) << slot;
        }

        long busyFrames() {
            long bits = 0;
            for (int slot = 0; slot < FRAMES; slot++) {
                bits |= frameBits(slot);
            }
            return bits;
        }

        int freeFrames() {
            int free = FRAMES;
            for (int slot = 0; slot < FRAMES; slot++) {
                free -= span[slot];
            }
            return free;
        }

        int lowestFree(int n) {
            long busy = busyFrames();
            for (int first = 0; first < FRAMES; first += Math.max(1, n)) {
                if (((busy >>> first) & ((1L << n) - 1)) == 0) {
                    return first;
                }
            }
            return NONE;
        }

        int freeBlocks(int n) {
            long busy = busyFrames();
            int count = 0;
            for (int first = 0; first < FRAMES; first += Math.max(1, n)) {
                if (((busy >>> first) & ((1L << n) - 1)) == 0) {
                    count++;
                }
            }
            return count;
        }

        /** The lowest block of n frames of a reservation without a page in it. */
        int hollow(int slot, int n) {
            int inside = there[home[slot] / PAGES] >>> (home[slot] % PAGES);
            for (int i = 0; i + n <= span[slot]; i += Math.max(1, n)) {
                if (((inside >>> i) & ((1 << n) - 1)) == 0) {
                    return slot + i;
                }
            }
            return NONE;
        }

        /** What is in a frame: 32 * object + page, or NONE where it is free, or NO_SUCH where it is kept empty. */
        int inFrame(int frame) {
            int slot = NONE;
            // A reservation begins at a multiple of its span, so just three slots can reach this frame.
            for (int n = LARGEST; n >= 1; n /= 4) {
                int first = frame - frame % n;
                if (span[first] > frame - first) {
                    slot = first;
                }
            }
            if (slot == NONE) {
                return NONE;
            }
            int id = home[slot] + frame - slot;
            return isThere(id / PAGES, id % PAGES) ? id : NO_SUCH;
        }

        int blockToEmpty(int n) {
            int best = NONE;
            int bestUse = 0;
            for (int first = 0; first < FRAMES; first += Math.max(1, n)) {
                boolean fits = false;
                boolean soiled = false;
                int use = NONE;
                for (int frame = first; frame < first + n; frame++) {
                    int id = inFrame(frame);
                    fits = fits || id != NONE;
                    if (id >= 0) {
                        use = Math.max(use, used[id]);
                        soiled = soiled || (dirty[id / PAGES] >>> (id % PAGES) & 1) == 1;
                    }
                }
                if (fits && !soiled && (best == NONE || use < bestUse)) {
                    best = first;
                    bestUse = use;
                }
            }
            return best;
        }

        void leave(int object, int bits) {
            there[object] &= ~bits;
            dirty[object] &= ~bits;
            four[object] &= ~bits;
            sixteen[object] &= ~bits;
            for (int page = 0; page < PAGES; page++) {
                if ((bits >>> page & 1) == 1) {
                    value[object * PAGES + page] = saved[object * PAGES + page];
                }
            }
        }

        boolean framesAreApart() {
            long seen = 0;
            for (int slot = 0; slot < FRAMES; slot++) {
                long bits = frameBits(slot);
                if ((seen & bits) != 0) {
                    return false;
                }
                seen |= bits;
            }
            return true;
        }

        boolean isSound(int object, int page) {
            int level = levelOf(object, page);
            if (level == 0) {
                return true;
            }
            int frame = frameOf(object, page);
            if (frame == NONE || inFrame(frame) != object * PAGES + page) {
                return false;
            }
            if (level == 1) {
                return true;
            }
            int slot = slotOf(object, page);
            int block = blockBits(page, level);
            int alike = level == 4 ? four[object] : sixteen[object];
            return span[slot] >= level && (alike & block) == block && allOrNone(dirty[object], block);
        }
    }

    /** What is told and stays when steps are taken back. */
    private static final class Told {
        static final int TEXTS = 4;
        static final int SAYINGS = 8;

        final int[] sizes = new int[OBJECTS];
        final Text[] texts = new Text[TEXTS];
        final int[] saidPages = new int[SAYINGS];
        final int[] saidWants = new int[SAYINGS];
        int objects;
        int textCount;
        int ruling = NONE;
        int saidCount;

        void copyFrom(Told other) {
            System.arraycopy(other.sizes, 0, sizes, 0, OBJECTS);
            for (int i = 0; i < TEXTS; i++) {
                texts[i] = other.texts[i];
            }
            System.arraycopy(other.saidPages, 0, saidPages, 0, SAYINGS);
            System.arraycopy(other.saidWants, 0, saidWants, 0, SAYINGS);
            objects = other.objects;
            textCount = other.textCount;
            ruling = other.ruling;
            saidCount = other.saidCount;
        }

        /** The text that rules, or null. */
        Text ruler() {
            return ruling >= 0 && ruling < textCount ? texts[ruling] : null;
        }
    }

    /** The latest worlds ahead of steps; one more than can be taken back, for the step that is tried. */
    private static final class Steps {
        static final int MOST = 30;

        final World[] rows = new World[MOST + 1];
        int first;
        int count;

        private World row(int i) {
            int at = (first + i) % rows.length;
            if (rows[at] == null) {
                rows[at] = new World();
            }
            return rows[at];
        }

        void prepare(World now) {
            row(count).copyFrom(now);
        }

        void commit() {
            if (count < MOST) {
                count++;
            } else {
                first = (first + 1) % rows.length;
            }
        }

        boolean takeBack(World now) {
            if (count == 0) {
                return false;
            }
            count--;
            now.copyFrom(row(count));
            return true;
        }

        void copyFrom(Steps other) {
            first = 0;
            count = other.count;
            for (int i = 0; i < count; i++) {
                row(i).copyFrom(other.row(i));
            }
        }
    }

    /** Does to one world what part I of the document says, under the laws that are told. */
    private static final class Keeper {
        final World world;
        final Told told;
        final Asker asker = new Asker();
        int pinned = NONE;
        // What the fault that was thought through last would do.
        int plannedSpan;
        int plannedSlot;
        int plannedFrame;
        int plannedVictim;

        Keeper(World world, Told told) {
            this.world = world;
            this.told = told;
        }

        int use(int object, int page) {
            if (!world.isThere(object, page)) {
                if (!findRoom(object, page)) {
                    return NONE;
                }
                bringIn(object, page);
            }
            world.used[object * PAGES + page] = world.time;
            world.time++;
            return world.frameOf(object, page);
        }

        /** What a write does behind its touch. */
        void settle(int object, int page, int value) {
            int id = object * PAGES + page;
            int bit = 1 << page;
            if ((world.dirty[object] & bit) == 0 && world.value[id] != value) {
                demote(object, page);
                world.dirty[object] |= bit;
                promote(object, page);
            }
            world.value[id] = value;
        }

        int duplicate(int a, int p, int b, int q) {
            world.goneCount = 0;
            if (use(a, p) == NONE) {
                return 0;
            }
            int done = 1;
            pinned = a * PAGES + p;
            if (use(b, q) != NONE) {
                done = 2;
                use(b, q);
                settle(b, q, world.value[pinned]);
                letGo(b * PAGES + q);
            }
            letGo(pinned);
            pinned = NONE;
            return done;
        }

        private void letGo(int id) {
            if (world.goneCount < world.gone.length) {
                world.gone[world.goneCount] = world.frameOf(id / PAGES, id % PAGES);
                world.goneCount++;
            }
        }

        int sweepOut(int object) {
            int count = 0;
            for (int page = 0; page < PAGES; page++) {
                int id = object * PAGES + page;
                if ((world.dirty[object] >>> page & 1) == 1 && world.value[id] != world.saved[id]) {
                    world.saved[id] = world.value[id];
                    count++;
                }
            }
            world.dirty[object] = 0;
            world.savings += count;
            for (int page = 0; page < PAGES; page++) {
                if (world.isThere(object, page)) {
                    promote(object, page);
                }
            }
            return count;
        }

        int emptyOut(int n) {
            int first = world.blockToEmpty(n);
            if (first == NONE) {
                return NONE;
            }
            int count = 0;
            for (int slot = 0; slot < FRAMES; slot++) {
                if (world.span[slot] > 0 && slot < first + n && slot + world.span[slot] > first) {
                    count += dissolve(slot, first, n);
                }
            }
            world.note(EMPTIED, first, n);
            return count;
        }

        /** Undoes a reservation, and clears of pages the n frames from first on: how many pages left. */
        private int dissolve(int slot, int first, int n) {
            int home = world.home[slot];
            int span = world.span[slot];
            int object = home / PAGES;
            int bits = world.pageBits(slot);
            int leaving = 0;
            world.span[slot] = 0;
            world.four[object] &= ~bits;
            world.sixteen[object] &= ~bits;
            for (int i = 0; i < span; i++) {
                int page = home % PAGES + i;
                if (world.isThere(object, page)) {
                    if (slot + i >= first && slot + i < first + n) {
                        leaving |= 1 << page;
                    } else {
                        world.hold(slot + i, home + i, 1, world.since[slot]);
                    }
                }
            }
            world.leave(object, leaving);
            return Integer.bitCount(leaving);
        }

        void dropAll(int object) {
            for (int slot = 0; slot < FRAMES; slot++) {
                if (world.home[slot] / PAGES == object) {
                    world.span[slot] = 0;
                }
            }
            world.leave(object, -1);
            world.note(DROPPED, object, 0);
        }

        /** 1, if what the day brings could be done, else 0. */
        int passDay() {
            world.day++;
            if (told.objects == 0) {
                return 0;
            }
            int what = draw(8);
            int object = draw(told.objects);
            int page = draw(told.sizes[object]);
            if (what == 7) {
                return emptyOut(1 << 2 * draw(3)) == NONE ? 0 : 1;
            }
            if (what == 6) {
                sweepOut(object);
                return 1;
            }
            int value = what > 2 ? draw(VALUES) : NONE;
            if (use(object, page) == NONE) {
                return 0;
            }
            if (value != NONE) {
                settle(object, page, value);
            }
            return 1;
        }

        private int draw(int by) {
            int drawn = by > 0 ? world.x % by : 0;
            world.x = (world.x * 761 + 619) % 31121;
            return drawn;
        }

        /** Thinks a fault through, without doing it: whether there is room. */
        boolean findRoom(int object, int page) {
            plannedSpan = 0;
            plannedVictim = NONE;
            plannedSlot = world.slotOf(object, page);
            if (plannedSlot != NONE) {
                plannedFrame = plannedSlot + page - world.home[plannedSlot] % PAGES;
                return true;
            }
            int most = wanted(told.ruler(), object, page);
            int taken = world.reservedBits(object);
            for (int n = LARGEST; n >= 1; n /= 4) {
                if (n > most || page - page % n + n > told.sizes[object] || (taken & blockBits(page, n)) != 0) {
                    continue;
                }
                plannedSlot = world.lowestFree(n);
                if (plannedSlot == NONE) {
                    plannedVictim = victimFor(n);
                    // No such block was free, so the lowest one behind the preemption is the victim's own.
                    plannedSlot = plannedVictim == NONE ? NONE : world.hollow(plannedVictim, n);
                }
                if (plannedSlot != NONE) {
                    plannedSpan = n;
                    plannedFrame = plannedSlot + page % n;
                    return true;
                }
            }
            return false;
        }

        private void bringIn(int object, int page) {
            if (plannedVictim != NONE) {
                breakUp(plannedVictim);
            }
            if (plannedSpan > 0) {
                int first = page - page % plannedSpan;
                world.hold(plannedSlot, object * PAGES + first, plannedSpan, world.time);
                world.note(RESERVED, object, first);
            }
            world.since[plannedSlot] = world.time;
            world.there[object] |= 1 << page;
            promote(object, page);
        }

        int victimFor(int n) {
            int best = NONE;
            for (int slot = 0; slot < FRAMES; slot++) {
                int span = world.span[slot];
                if (span > 0 && (best == NONE || world.since[slot] < world.since[best])
                        && world.holds(slot) < span && !isPinned(slot)
                        && world.hollow(slot, n) != NONE && letsGo(slot)) {
                    best = slot;
                }
            }
            return best;
        }

        private boolean isPinned(int slot) {
            return pinned >= world.home[slot] && pinned < world.home[slot] + world.span[slot];
        }

        private void breakUp(int slot) {
            int home = world.home[slot];
            int span = world.span[slot];
            int since = world.since[slot];
            int inside = world.there[home / PAGES] >>> (home % PAGES);
            world.span[slot] = 0;
            for (int i = 0; i < span; i++) {
                boolean whole = span > 4 && ((inside >>> (i - i % 4)) & 15) == 15;
                if (whole && i % 4 == 0) {
                    world.hold(slot + i, home + i, 4, since);
                } else if (!whole && (inside >>> i & 1) == 1) {
                    world.hold(slot + i, home + i, 1, since);
                }
            }
            world.note(PREEMPTED, home / PAGES, home % PAGES);
        }

        private void promote(int object, int page) {
            int slot = world.slotOf(object, page);
            int span = slot == NONE ? 0 : world.span[slot];
            int block = blockBits(page, 4);
            int large = world.four[object] | world.sixteen[object];
            if (span >= 4 && (world.there[object] & block) == block && (large & block) == 0
                    && allOrNone(world.dirty[object], block)) {
                world.four[object] |= block;
                world.note(PROMOTED, object, page - page % 4);
            }
            block = blockBits(page, LARGEST);
            if (span == LARGEST && (world.four[object] & block) == block
                    && allOrNone(world.dirty[object], block)) {
                world.four[object] &= ~block;
                world.sixteen[object] |= block;
                world.note(PROMOTED, object, page - page % LARGEST);
            }
        }

        private void demote(int object, int page) {
            int level = world.levelOf(object, page);
            if (level == LARGEST) {
                int block = blockBits(page, LARGEST);
                world.sixteen[object] &= ~block;
                world.four[object] |= block;
                world.note(DEMOTED, object, page - page % LARGEST);
            }
            if (level >= 4) {
                world.four[object] &= ~blockBits(page, 4);
                world.note(DEMOTED, object, page - page % 4);
            }
        }

        int wanted(Text text, int object, int page) {
            if (text == null || text.wantsFrom == NONE) {
                return LARGEST;
            }
            asker.setShared(world.time, world.freeFrames(), object, told.sizes[object]);
            asker.names[Asker.PAGE] = page;
            return Math.max(1, Math.min(LARGEST, asker.answer(text.code, text.wantsFrom, text.wantsTo, world)));
        }

        boolean letsGo(int slot) {
            Text text = told.ruler();
            if (text == null || text.sparesFrom == NONE) {
                return true;
            }
            int object = world.home[slot] / PAGES;
            asker.setShared(world.time, world.freeFrames(), object, told.sizes[object]);
            asker.names[Asker.IDLE] = world.time - world.since[slot];
            asker.names[Asker.HOLDS] = world.holds(slot);
            asker.names[Asker.SPAN] = world.span[slot];
            return asker.answer(text.code, text.sparesFrom, text.sparesTo, world) > 0;
        }
    }

    /** Answers the sums of laws: their code puts on a stack and takes from it. */
    private static final class Asker {
        // The names of laws, in the order of the reader's words.
        static final int TIME = 0;
        static final int FREE = 1;
        static final int OBJECT = 2;
        static final int SIZE = 3;
        static final int PAGE = 4;
        static final int IDLE = 5;
        static final int HOLDS = 6;
        static final int SPAN = 7;
        static final int NAMES = 8;

        static final int NUMBER = 0;
        static final int NAME = 1;
        static final int JUMP = 2;
        static final int JUMP_UNLESS = 3;
        static final int HAS = 4;
        static final int SOILED = 5;
        static final int LESS = 6;
        static final int NOT = 7;
        static final int PLUS = 8;
        static final int MINUS = 9;
        static final int TIMES = 10;
        static final int BY = 11;
        static final int BELOW = 12;
        static final int AT_MOST = 13;
        static final int ABOVE = 14;
        static final int AT_LEAST = 15;
        static final int LIKE = 16;
        static final int UNLIKE = 17;
        static final int AND = 18;
        static final int OR = 19;

        static final long LIMIT = 1000000;

        final int[] names = new int[NAMES];
        final long[] stack = new long[64];

        void setShared(int time, int free, int number, int size) {
            names[TIME] = time;
            names[FREE] = free;
            names[OBJECT] = number;
            names[SIZE] = size;
        }

        /** The value of the sum whose code stands from .. to; jumps lead forward alone, so it ends. */
        int answer(int[] code, int from, int to, World world) {
            int top = 0;
            int at = from;
            while (at >= 0 && at < to && at + 1 < code.length && top < stack.length) {
                int what = code[at];
                int with = code[at + 1];
                at += 2;
                long right = top > 0 ? stack[top - 1] : 0;
                long left = top > 1 ? stack[top - 2] : 0;
                if (what == JUMP || what == JUMP_UNLESS && right == 0) {
                    at = Math.max(at, with);
                }
                top += what <= NAME ? 1 : what == JUMP_UNLESS || what >= PLUS ? -1 : 0;
                if (what == JUMP || what == JUMP_UNLESS) {
                    continue;
                }
                boolean object = right >= 0 && right < OBJECTS;
                long result = 0;
                switch (what) {
                    case NUMBER: result = with; break;
                    case NAME: result = with >= 0 && with < NAMES ? names[with] : 0; break;
                    case HAS: result = object ? Integer.bitCount(world.there[(int) right]) : 0; break;
                    case SOILED: result = object ? Integer.bitCount(world.dirty[(int) right]) : 0; break;
                    case LESS: result = -right; break;
                    case NOT: result = 1 - right; break;
                    case PLUS: result = left + right; break;
                    case MINUS: result = left - right; break;
                    case TIMES: result = left * right; break;
                    case BY: result = right == 0 ? 0 : left / right; break;
                    case BELOW: result = left < right ? 1 : 0; break;
                    case AT_MOST: result = left <= right ? 1 : 0; break;
                    case ABOVE: result = left > right ? 1 : 0; break;
                    case AT_LEAST: result = left >= right ? 1 : 0; break;
                    case LIKE: result = left == right ? 1 : 0; break;
                    case UNLIKE: result = left != right ? 1 : 0; break;
                    case AND: result = left & right; break;
                    case OR: result = left | right; break;
                    default: break;
                }
                if (top > 0) {
                    stack[top - 1] = Math.max(-LIMIT, Math.min(LIMIT, result));
                }
            }
            return top > 0 ? (int) stack[top - 1] : 0;
        }
    }

    /** A text that was read without a fault; it never changes. */
    private static final class Text {
        static final int ROW = 4;

        final int[] clauses;
        final int[] code;
        final int wantsFrom;
        final int wantsTo;
        final int sparesFrom;
        final int sparesTo;

        Text(int[] clauses, int[] code, int[] laws) {
            this.clauses = clauses;
            this.code = code;
            wantsFrom = laws[0];
            wantsTo = laws[1];
            sparesFrom = laws[2];
            sparesTo = laws[3];
        }

        int clauseCount() {
            return clauses.length / ROW;
        }

        /** The clause's word (0), or one of its numbers in their order (1 to 3). */
        int figure(int clause, int i) {
            int at = clause * ROW + i;
            return at >= 0 && at < clauses.length ? clauses[at] : 0;
        }
    }

    /** The bytes that are fed. */
    private static final class Tape {
        static final int LONGEST = 300;

        final int[] bytes = new int[LONGEST];
        int length;

        void add(int four) {
            for (int shift = 24; shift >= 0 && length < LONGEST; shift -= 8) {
                bytes[length] = four >>> shift & 255;
                length++;
            }
        }
    }

    /** Reads the tape as a text: tokens first, then clause by clause, up to the first fault. */
    private static final class Reader {
        static final String WORDS = "wants spares object touch write sweep empty drop day of by has soiled if then else end or and not time free number size page idle holds span";
        static final String SIGNS = "<>=#+-*/();";

        static final int CLOSE = 0;
        static final int ODD = 1;
        static final int DIGITS = 2;
        static final int OR_LIKE = 100;
        static final int WORD = 200;
        static final int WANTS = WORD;
        static final int SPARES = WORD + 1;
        static final int OBJECT = WORD + 2;
        static final int TOUCH = WORD + 3;
        static final int WRITE = WORD + 4;
        static final int SWEEP = WORD + 5;
        static final int EMPTY = WORD + 6;
        static final int DROP = WORD + 7;
        static final int DAY = WORD + 8;
        static final int OF = WORD + 9;
        static final int BY = WORD + 10;
        static final int HAS = WORD + 11;
        static final int SOILED = WORD + 12;
        static final int IF = WORD + 13;
        static final int THEN = WORD + 14;
        static final int ELSE = WORD + 15;
        static final int END = WORD + 16;
        static final int OR = WORD + 17;
        static final int AND = WORD + 18;
        static final int NOT = WORD + 19;
        static final int FIRST_NAME = WORD + 20;

        static final int LARGEST_NUMBER = 9999;
        static final int MOST_CLAUSES = 24;
        static final int MOST_OPEN = 8;

        final Tape tape;
        final int[] kinds = new int[Tape.LONGEST + 1];
        final int[] starts = new int[Tape.LONGEST + 1];
        final int[] amounts = new int[Tape.LONGEST + 1];
        final int[] code = new int[2 * Tape.LONGEST];
        final int[] clauses = new int[MOST_CLAUSES * Text.ROW];
        // Where the code of wants begins and ends, and that of spares.
        final int[] laws = new int[4];
        int tokens;
        int at;
        int kind;
        int law;
        int written;
        int clauseCount;
        int wrong;
        int where;
        boolean hasRead;

        Reader(Tape tape) {
            this.tape = tape;
        }

        /** The text on the tape, or null where it has a fault. */
        Text read() {
            hasRead = true;
            wrong = 0;
            where = NONE;
            written = 0;
            clauseCount = 0;
            Arrays.fill(laws, NONE);
            split();
            at = 0;
            kind = kinds[0];
            for (int i = 0; i <= MOST_CLAUSES && wrong == 0 && kind != CLOSE; i++) {
                readClause();
            }
            if (wrong != 0) {
                return null;
            }
            return new Text(Arrays.copyOf(clauses, clauseCount * Text.ROW), Arrays.copyOf(code, written), laws);
        }

        private void split() {
            tokens = 0;
            int i = 0;
            while (i < tape.length && i < Tape.LONGEST) {
                int first = tape.bytes[i];
                int to = i + 1;
                if (first != 32 && first != 10) {
                    to = Math.max(to, endOfRun(i));
                    kinds[tokens] = kindOf(i, to);
                    starts[tokens] = i;
                    amounts[tokens] = amountOf(i, to);
                    tokens++;
                }
                i = to;
            }
            kinds[tokens] = CLOSE;
            starts[tokens] = tape.length;
        }

        private int endOfRun(int from) {
            int first = tape.bytes[from];
            int to = from + 1;
            if (first == '<' || first == '>') {
                return to < tape.length && tape.bytes[to] == '=' ? to + 1 : to;
            }
            boolean digits = isDigit(first);
            if (digits || isLetter(first)) {
                while (to < tape.length && (digits ? isDigit(tape.bytes[to]) : isLetter(tape.bytes[to]))) {
                    to++;
                }
            }
            return to;
        }

        private int kindOf(int from, int to) {
            int first = tape.bytes[from];
            if (isDigit(first)) {
                return DIGITS;
            }
            if (isLetter(first)) {
                return wordKind(from, to);
            }
            if (SIGNS.indexOf((char) first) < 0) {
                return ODD;
            }
            return to - from == 2 ? first + OR_LIKE : first;
        }

        /** Unknown words are tokens that can stand nowhere. */
        private int wordKind(int from, int to) {
            int number = 0;
            int begin = 0;
            for (int i = 0; i <= WORDS.length(); i++) {
                if (i == WORDS.length() || WORDS.charAt(i) == ' ') {
                    if (i - begin == to - from && spells(begin, i, from)) {
                        return WORD + number;
                    }
                    number++;
                    begin = i + 1;
                }
            }
            return ODD;
        }

        private boolean spells(int begin, int end, int from) {
            for (int i = begin; i < end; i++) {
                if (WORDS.charAt(i) != tape.bytes[from + i - begin]) {
                    return false;
                }
            }
            return true;
        }

        private int amountOf(int from, int to) {
            int amount = 0;
            for (int i = from; i < to && isDigit(tape.bytes[i]); i++) {
                amount = Math.min(amount * 10 + tape.bytes[i] - '0', LARGEST_NUMBER + 1);
            }
            return amount;
        }

        private static boolean isDigit(int sign) {
            return sign >= '0' && sign <= '9';
        }

        private static boolean isLetter(int sign) {
            return sign >= 'a' && sign <= 'z' || sign >= 'A' && sign <= 'Z';
        }

        private void advance() {
            if (at < tokens) {
                at++;
            }
            kind = kinds[at];
        }

        private void refuse(int fault) {
            if (wrong == 0) {
                wrong = fault;
                where = starts[at];
            }
        }

        private void expect(int wanted) {
            if (wrong == 0 && kind == wanted) {
                advance();
            } else {
                refuse(1);
            }
        }

        private void expectNumber(int i, int least, int most) {
            if (wrong != 0 || kind != DIGITS) {
                refuse(1);
            } else if (amounts[at] < least || amounts[at] > most) {
                refuse(2);
            } else {
                clauses[clauseCount * Text.ROW + i] = amounts[at];
                advance();
            }
        }

        private void readClause() {
            int word = kind;
            if (word < WANTS || word > DAY) {
                refuse(1);
            } else if (word <= SPARES && laws[2 * (word - WANTS)] != NONE) {
                refuse(4);
            } else if (clauseCount >= MOST_CLAUSES) {
                refuse(6);
            }
            if (wrong != 0) {
                return;
            }
            clauses[clauseCount * Text.ROW] = word;
            advance();
            switch (word) {
                case WANTS: case SPARES: readLaw(word); break;
                case OBJECT: expectNumber(1, 1, PAGES); break;
                case TOUCH: case WRITE:
                    expectNumber(1, 0, PAGES - 1);
                    expect(OF);
                    expectNumber(2, 0, OBJECTS - 1);
                    break;
                case EMPTY: expectNumber(1, 1, LARGEST); break;
                case DAY: expectNumber(1, 1, MOST_DAYS); break;
                default: expectNumber(1, 0, OBJECTS - 1); break;
            }
            if (word == WRITE) {
                expect(BY);
                expectNumber(3, 0, VALUES - 1);
            }
            expect(';');
            clauseCount++;
        }

        private void readLaw(int word) {
            law = word;
            int i = 2 * (word - WANTS);
            laws[i] = written;
            readSum(0);
            laws[i + 1] = written;
        }

        private void emit(int what, int with) {
            if (written + 1 < code.length) {
                code[written] = what;
                code[written + 1] = with;
                written += 2;
            }
        }

        private void readSum(int open) {
            readProduct(open);
            for (int i = 0; i < Tape.LONGEST && wrong == 0 && (kind == '+' || kind == '-'); i++) {
                int what = kind == '+' ? Asker.PLUS : Asker.MINUS;
                advance();
                readProduct(open);
                emit(what, 0);
            }
        }

        private void readProduct(int open) {
            readOne(open);
            for (int i = 0; i < Tape.LONGEST && wrong == 0 && (kind == '*' || kind == '/'); i++) {
                int what = kind == '*' ? Asker.TIMES : Asker.BY;
                advance();
                readOne(open);
                emit(what, 0);
            }
        }

        private void readOne(int open) {
            if (kind == DIGITS || kind >= FIRST_NAME) {
                readLeaf();
                return;
            }
            int opener = kind;
            if (opener != '(' && opener != '-' && opener != HAS && opener != SOILED && opener != IF) {
                refuse(1);
            } else if (open >= MOST_OPEN) {
                refuse(3);
            }
            if (wrong != 0) {
                return;
            }
            advance();
            if (opener == '(') {
                readSum(open + 1);
                expect(')');
            } else if (opener == IF) {
                readChoice(open + 1);
            } else {
                readOne(open + 1);
                emit(opener == '-' ? Asker.LESS : opener == HAS ? Asker.HAS : Asker.SOILED, 0);
            }
        }

        private void readLeaf() {
            int name = kind - FIRST_NAME;
            if (kind == DIGITS) {
                if (amounts[at] > LARGEST_NUMBER) {
                    refuse(2);
                }
                emit(Asker.NUMBER, amounts[at]);
            } else {
                boolean foreign = law == WANTS ? name > Asker.PAGE : name == Asker.PAGE;
                if (foreign) {
                    refuse(5);
                }
                emit(Asker.NAME, name);
            }
            advance();
        }

        private void readChoice(int open) {
            readEither(open);
            expect(THEN);
            int unless = written;
            emit(Asker.JUMP_UNLESS, 0);
            readSum(open);
            expect(ELSE);
            int over = written;
            emit(Asker.JUMP, 0);
            lead(unless);
            readSum(open);
            expect(END);
            lead(over);
        }

        /** Makes the jump at that place lead to what is written next. */
        private void lead(int jump) {
            if (jump >= 0 && jump + 1 < code.length) {
                code[jump + 1] = written;
            }
        }

        private void readEither(int open) {
            readBoth(open);
            for (int i = 0; i < Tape.LONGEST && wrong == 0 && kind == OR; i++) {
                advance();
                readBoth(open);
                emit(Asker.OR, 0);
            }
        }

        private void readBoth(int open) {
            readAsk(open);
            for (int i = 0; i < Tape.LONGEST && wrong == 0 && kind == AND; i++) {
                advance();
                readAsk(open);
                emit(Asker.AND, 0);
            }
        }

        private void readAsk(int open) {
            if (kind == NOT) {
                if (open >= MOST_OPEN) {
                    refuse(3);
                    return;
                }
                advance();
                readAsk(open + 1);
                emit(Asker.NOT, 0);
                return;
            }
            readSum(open);
            int what = relation();
            if (what == NONE) {
                refuse(1);
                return;
            }
            advance();
            readSum(open);
            emit(what, 0);
        }

        private int relation() {
            switch (kind) {
                case '<': return Asker.BELOW;
                case '<' + OR_LIKE: return Asker.AT_MOST;
                case '>': return Asker.ABOVE;
                case '>' + OR_LIKE: return Asker.AT_LEAST;
                case '=': return Asker.LIKE;
                case '#': return Asker.UNLIKE;
                default: return NONE;
            }
        }
    }
}
