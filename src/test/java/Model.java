import java.util.ArrayDeque;
import java.util.ArrayList;
import java.util.Deque;
import java.util.List;

/**
 * The document written a second time, slowly and with other means than the class: lists of pages and
 * reservations that are copied whole, texts that are kept as trees, faults that are thrown. ModelTest
 * holds the class against it.
 */
final class Model {
    static final class Page {
        final int object;
        final int number;
        boolean there;
        boolean dirty;
        int value;
        int saved;
        int level;
        int used = -1;

        Page(int object, int number) {
            this.object = object;
            this.number = number;
        }

        Page twin() {
            Page p = new Page(object, number);
            p.there = there;
            p.dirty = dirty;
            p.value = value;
            p.saved = saved;
            p.level = level;
            p.used = used;
            return p;
        }
    }

    record Reservation(int object, int page, int n, int frame, int time) {
        boolean hasPage(int o, int p) {
            return o == object && p >= page && p < page + n;
        }

        boolean hasFrame(int f) {
            return f >= frame && f < frame + n;
        }
    }

    record Line(int time, int what, int a, int b) {
    }

    record Saying(int page, int wants) {
    }

    static final class State {
        Page[][] pages = new Page[4][32];
        List<Reservation> reservations = new ArrayList<>();
        List<Line> book = new ArrayList<>();
        List<Integer> let = new ArrayList<>();
        int time;
        int x = 499;
        int day;
        int savings;

        State() {
            for (int o = 0; o < 4; o++) {
                for (int p = 0; p < 32; p++) {
                    pages[o][p] = new Page(o, p);
                }
            }
        }

        State twin() {
            State s = new State();
            for (int o = 0; o < 4; o++) {
                for (int p = 0; p < 32; p++) {
                    s.pages[o][p] = pages[o][p].twin();
                }
            }
            s.reservations = new ArrayList<>(reservations);
            s.book = new ArrayList<>(book);
            s.let = new ArrayList<>(let);
            s.time = time;
            s.x = x;
            s.day = day;
            s.savings = savings;
            return s;
        }
    }

    static final class Whole {
        State state = new State();
        Deque<State> steps = new ArrayDeque<>();
        List<Integer> sizes = new ArrayList<>();
        List<ModelText> texts = new ArrayList<>();
        int ruling = -1;
        List<Saying> said = new ArrayList<>();

        Whole twin() {
            Whole w = new Whole();
            w.state = state.twin();
            // States on the tape of steps are never changed, so they may be shared.
            w.steps = new ArrayDeque<>(steps);
            w.sizes = new ArrayList<>(sizes);
            w.texts = new ArrayList<>(texts);
            w.ruling = ruling;
            w.said = new ArrayList<>(said);
            return w;
        }
    }

    Whole all = new Whole();
    Whole image = new Whole();
    StringBuilder tape = new StringBuilder();
    Integer fault;
    int faultPlace;
    List<Page> pinned = new ArrayList<>();

    private State s() {
        return all.state;
    }

    private boolean isObject(int o) {
        return o >= 0 && o < all.sizes.size();
    }

    private boolean isPage(int o, int p) {
        return isObject(o) && p >= 0 && p < all.sizes.get(o);
    }

    private static boolean isBlock(int n) {
        return n == 1 || n == 4 || n == 16;
    }

    // ---- what is told

    int object(int size) {
        if (size < 1 || size > 32 || all.sizes.size() == 4) {
            return -1;
        }
        all.sizes.add(size);
        return all.sizes.size() - 1;
    }

    int feed(int a, int b, int c, int d, int e) {
        if (tape.length() > 280) {
            return -1;
        }
        for (int word : new int[] {a, b, c, d, e}) {
            for (int i = 3; i >= 0; i--) {
                tape.append((char) (word >> 8 * i & 0xFF));
            }
        }
        return tape.length();
    }

    int end(int n) {
        if (n < 0 || n > tape.length()) {
            return -1;
        }
        tape.setLength(n);
        return n;
    }

    int text() {
        if (all.texts.size() == 4) {
            return -1;
        }
        String written = tape.toString();
        tape.setLength(0);
        try {
            ModelText t = ModelText.read(written);
            fault = 0;
            faultPlace = -1;
            all.texts.add(t);
            return all.texts.size() - 1;
        } catch (ModelText.Fault f) {
            fault = f.what;
            faultPlace = f.place;
            return -1;
        }
    }

    int fault(int what) {
        if (fault == null) {
            return -1;
        }
        return what == 0 ? fault : what == 1 ? faultPlace : -1;
    }

    boolean by(int text) {
        if (text < -1 || text >= all.texts.size()) {
            return false;
        }
        all.ruling = text;
        return true;
    }

    // ---- the laws

    private ModelText.Asked asked(int object) {
        ModelText.Asked asked = new ModelText.Asked();
        asked.names.put("time", s().time);
        asked.names.put("free", free());
        asked.names.put("number", object);
        asked.names.put("size", all.sizes.get(object));
        for (int o = 0; o < 4; o++) {
            for (Page p : s().pages[o]) {
                asked.has[o] += p.there ? 1 : 0;
                asked.soiled[o] += p.dirty ? 1 : 0;
            }
        }
        return asked;
    }

    private ModelText law() {
        return all.ruling < 0 ? null : all.texts.get(all.ruling);
    }

    private int wantsBy(ModelText t, int object, int page) {
        if (t == null || t.wants == null) {
            return 16;
        }
        ModelText.Asked asked = asked(object);
        asked.names.put("page", page);
        int v = t.wants.of(asked);
        return v < 1 ? 1 : v > 16 ? 16 : v;
    }

    private boolean lets(Reservation r) {
        if (law() == null || law().spares == null) {
            return true;
        }
        ModelText.Asked asked = asked(r.object);
        asked.names.put("idle", s().time - r.time);
        asked.names.put("holds", thereOf(r));
        asked.names.put("span", r.n);
        return law().spares.of(asked) > 0;
    }

    // ---- frames

    private int thereOf(Reservation r) {
        int count = 0;
        for (int i = 0; i < r.n; i++) {
            count += s().pages[r.object][r.page + i].there ? 1 : 0;
        }
        return count;
    }

    private Reservation withFrame(int f) {
        for (Reservation r : s().reservations) {
            if (r.hasFrame(f)) {
                return r;
            }
        }
        return null;
    }

    private Reservation withPage(int o, int p) {
        for (Reservation r : s().reservations) {
            if (r.hasPage(o, p)) {
                return r;
            }
        }
        return null;
    }

    private Page pageIn(int f) {
        Reservation r = withFrame(f);
        if (r == null) {
            return null;
        }
        Page p = s().pages[r.object][r.page + f - r.frame];
        return p.there ? p : null;
    }

    private int frameOf(Page p) {
        if (!p.there) {
            return -1;
        }
        Reservation r = withPage(p.object, p.number);
        return r.frame + p.number - r.page;
    }

    private int free() {
        int count = 0;
        for (int f = 0; f < 64; f++) {
            count += withFrame(f) == null ? 1 : 0;
        }
        return count;
    }

    private boolean allFree(int first, int n) {
        for (int f = first; f < first + n; f++) {
            if (withFrame(f) != null) {
                return false;
            }
        }
        return true;
    }

    private int lowestHole(int n) {
        for (int f = 0; f < 64; f += n) {
            if (allFree(f, n)) {
                return f;
            }
        }
        return -1;
    }

    private void note(int what, int a, int b) {
        s().book.add(new Line(s().time, what, a, b));
        if (s().book.size() > 25) {
            s().book.remove(0);
        }
    }

    // ---- faults

    private Reservation victimOf(int n) {
        Reservation best = null;
        for (int f = 0; f < 64; f++) {
            Reservation r = withFrame(f);
            if (r == null || r.frame != f || thereOf(r) == r.n || !lets(r)) {
                continue;
            }
            boolean pin = false;
            for (Page p : pinned) {
                pin |= r.hasPage(p.object, p.number);
            }
            boolean room = false;
            for (int b = 0; b < 64; b += n) {
                boolean fits = r.hasFrame(b) && r.hasFrame(b + n - 1);
                for (int i = b; fits && i < b + n; i++) {
                    fits = pageIn(i) == null;
                }
                room |= fits;
            }
            if (!pin && room && (best == null || r.time < best.time)) {
                best = r;
            }
        }
        return best;
    }

    private void breakUp(Reservation r) {
        s().reservations.remove(r);
        note(1, r.object, r.page);
        for (int i = 0; i < r.n; i++) {
            if (r.n == 16 && i % 4 == 0) {
                boolean whole = true;
                for (int k = 0; k < 4; k++) {
                    whole &= s().pages[r.object][r.page + i + k].there;
                }
                if (whole) {
                    s().reservations.add(new Reservation(r.object, r.page + i, 4, r.frame + i, r.time));
                    i += 3;
                    continue;
                }
            }
            if (s().pages[r.object][r.page + i].there) {
                s().reservations.add(new Reservation(r.object, r.page + i, 1, r.frame + i, r.time));
            }
        }
    }

    /** Makes the page there, by what it takes: how many pages were reserved for it, or -1 without room. */
    private int bring(int o, int p) {
        Page page = s().pages[o][p];
        int made = 0;
        if (withPage(o, p) == null) {
            int most = wantsBy(law(), o, p);
            for (int n : new int[] {16, 4, 1}) {
                int first = p / n * n;
                boolean fits = n <= most && first + n <= all.sizes.get(o);
                for (int i = first; fits && i < first + n; i++) {
                    fits = withPage(o, i) == null;
                }
                if (!fits) {
                    continue;
                }
                if (lowestHole(n) < 0) {
                    Reservation r = victimOf(n);
                    if (r == null) {
                        continue;
                    }
                    breakUp(r);
                }
                s().reservations.add(new Reservation(o, first, n, lowestHole(n), s().time));
                note(0, o, first);
                made = n;
                break;
            }
            if (made == 0) {
                return -1;
            }
        }
        Reservation r = withPage(o, p);
        s().reservations.remove(r);
        s().reservations.add(new Reservation(r.object, r.page, r.n, r.frame, s().time));
        page.there = true;
        page.level = 1;
        page.value = page.saved;
        promote(page);
        return made;
    }

    private List<Page> block(Page p, int n) {
        List<Page> list = new ArrayList<>();
        for (int i = p.number / n * n; i < p.number / n * n + n; i++) {
            list.add(s().pages[p.object][i]);
        }
        return list;
    }

    private void promote(Page page) {
        for (int n : new int[] {4, 16}) {
            Reservation r = withPage(page.object, page.number);
            int dirty = 0;
            boolean fits = true;
            for (Page p : block(page, n)) {
                fits &= p.there && p.level == n / 4 && r.hasPage(p.object, p.number);
                dirty += p.dirty ? 1 : 0;
            }
            if (fits && (dirty == 0 || dirty == n)) {
                for (Page p : block(page, n)) {
                    p.level = n;
                }
                note(2, page.object, page.number / n * n);
            }
        }
    }

    private void demote(Page page) {
        for (int n : new int[] {16, 4}) {
            if (page.level == n) {
                for (Page p : block(page, n)) {
                    p.level = n / 4;
                }
                note(3, page.object, page.number / n * n);
            }
        }
    }

    private boolean touched(int o, int p) {
        Page page = s().pages[o][p];
        if (!page.there && bring(o, p) < 0) {
            return false;
        }
        page.used = s().time++;
        return true;
    }

    private boolean written(int o, int p, int value) {
        if (!touched(o, p)) {
            return false;
        }
        Page page = s().pages[o][p];
        if (!page.dirty && page.value != value) {
            demote(page);
            page.dirty = true;
            promote(page);
        }
        page.value = value;
        return true;
    }

    private int swept(int o) {
        int count = 0;
        for (Page p : s().pages[o]) {
            if (p.dirty && p.value != p.saved) {
                p.saved = p.value;
                count++;
            }
            p.dirty = false;
        }
        for (Page p : s().pages[o]) {
            if (p.there) {
                promote(p);
            }
        }
        s().savings += count;
        return count;
    }

    private int nextOf(int n) {
        int best = -1;
        int bestUsed = Integer.MAX_VALUE;
        for (int b = 0; b < 64; b += n) {
            boolean dirty = false;
            int greatest = -1;
            for (int f = b; f < b + n; f++) {
                Page p = pageIn(f);
                if (p != null) {
                    dirty |= p.dirty;
                    greatest = Math.max(greatest, p.used);
                }
            }
            if (!allFree(b, n) && !dirty && greatest < bestUsed) {
                best = b;
                bestUsed = greatest;
            }
        }
        return best;
    }

    private void absent(Page p) {
        p.there = false;
        p.dirty = false;
        p.level = 0;
        p.value = p.saved;
    }

    private int emptied(int n) {
        int first = nextOf(n);
        if (first < 0) {
            return -1;
        }
        int count = 0;
        for (Reservation r : new ArrayList<>(s().reservations)) {
            if (r.frame + r.n <= first || r.frame >= first + n) {
                continue;
            }
            s().reservations.remove(r);
            for (int i = 0; i < r.n; i++) {
                Page p = s().pages[r.object][r.page + i];
                int f = r.frame + i;
                if (p.there && f >= first && f < first + n) {
                    absent(p);
                    count++;
                } else if (p.there) {
                    p.level = 1;
                    s().reservations.add(new Reservation(r.object, p.number, 1, f, r.time));
                }
            }
        }
        note(4, first, n);
        return count;
    }

    private int draw(int by) {
        int d = s().x % by;
        s().x = (s().x * 761 + 619) % 31121;
        return d;
    }

    private int dayPasses() {
        int done = 0;
        if (!all.sizes.isEmpty()) {
            int what = draw(8);
            int o = draw(all.sizes.size());
            int p = draw(all.sizes.get(o));
            if (what < 3) {
                done = touched(o, p) ? 1 : 0;
            } else if (what < 6) {
                done = written(o, p, draw(100)) ? 1 : 0;
            } else if (what == 6) {
                swept(o);
                done = 1;
            } else {
                done = emptied(new int[] {1, 4, 16}[draw(3)]) < 0 ? 0 : 1;
            }
        }
        s().day++;
        return done;
    }

    // ---- steps

    private void step(State ahead) {
        all.steps.addLast(ahead);
        if (all.steps.size() > 30) {
            all.steps.removeFirst();
        }
    }

    int touch(int o, int p) {
        if (!isPage(o, p)) {
            return -1;
        }
        State ahead = s().twin();
        if (!touched(o, p)) {
            return -1;
        }
        step(ahead);
        return frameOf(s().pages[o][p]);
    }

    int write(int o, int p, int value) {
        if (!isPage(o, p) || value < 0 || value > 99) {
            return -1;
        }
        State ahead = s().twin();
        if (!written(o, p, value)) {
            return -1;
        }
        step(ahead);
        return frameOf(s().pages[o][p]);
    }

    int copy(int a, int p, int b, int q) {
        if (!isPage(a, p) || !isPage(b, q) || a == b && p == q) {
            return -1;
        }
        step(s().twin());
        s().let.clear();
        if (touched(a, p)) {
            pinned.add(s().pages[a][p]);
            if (touched(b, q)) {
                pinned.add(s().pages[b][q]);
                written(b, q, s().pages[a][p].value);
            }
        }
        int count = pinned.size();
        while (!pinned.isEmpty()) {
            s().let.add(frameOf(pinned.remove(pinned.size() - 1)));
        }
        return count;
    }

    int sweep(int o) {
        if (!isObject(o)) {
            return -1;
        }
        step(s().twin());
        return swept(o);
    }

    int empty(int n) {
        if (!isBlock(n)) {
            return -1;
        }
        State ahead = s().twin();
        int count = emptied(n);
        if (count >= 0) {
            step(ahead);
        }
        return count;
    }

    boolean drop(int o) {
        if (!isObject(o)) {
            return false;
        }
        step(s().twin());
        for (Page p : s().pages[o]) {
            absent(p);
        }
        s().reservations.removeIf(r -> r.object == o);
        note(5, o, 0);
        return true;
    }

    int day(int n) {
        if (n < 1 || n > 60 || s().day + n > 9999) {
            return -1;
        }
        return days(n);
    }

    private int days(int n) {
        int done = 0;
        for (int i = 0; i < n && s().day < 9999; i++) {
            step(s().twin());
            done += dayPasses();
        }
        return done;
    }

    int played(int text) {
        if (text < 0 || text >= all.texts.size()) {
            return -2;
        }
        List<ModelText.Clause> clauses = all.texts.get(text).clauses;
        for (int i = 0; i < clauses.size(); i++) {
            ModelText.Clause c = clauses.get(i);
            boolean done;
            switch (c.word()) {
                case "object" -> done = object(c.a()) >= 0;
                case "touch" -> done = touch(c.b(), c.a()) >= 0;
                case "write" -> done = write(c.b(), c.a(), c.c()) >= 0;
                case "sweep" -> done = sweep(c.a()) >= 0;
                case "empty" -> done = empty(c.a()) >= 0;
                case "drop" -> done = drop(c.a());
                case "day" -> {
                    done = s().day + c.a() <= 9999;
                    days(c.a());
                }
                default -> done = true;
            }
            if (!done) {
                return i;
            }
        }
        return -1;
    }

    int years(int seed, int n) {
        if (seed < 0 || seed > 9999 || n < 1 || n > 40) {
            return -1;
        }
        step(s().twin());
        s().x = seed * 2 + 499;
        for (int i = 0; i < n && s().day < 9999; i++) {
            dayPasses();
        }
        return s().time;
    }

    int undo() {
        if (all.steps.isEmpty()) {
            return -1;
        }
        all.state = all.steps.removeLast().twin();
        return all.steps.size();
    }

    // ---- questions

    int page(int o, int p, int what) {
        if (!isPage(o, p)) {
            return -2;
        }
        Page page = s().pages[o][p];
        return switch (what) {
            case 0 -> frameOf(page);
            case 1 -> page.dirty ? 1 : 0;
            case 2 -> page.value;
            case 3 -> page.saved;
            case 4 -> page.level;
            case 5 -> page.used;
            default -> -2;
        };
    }

    int frame(int f) {
        if (f < 0 || f > 63) {
            return -3;
        }
        Page p = pageIn(f);
        return p != null ? 32 * p.object + p.number : withFrame(f) == null ? -1 : -2;
    }

    private Reservation numbered(int i) {
        List<Reservation> sorted = new ArrayList<>(s().reservations);
        sorted.sort((a, b) -> a.frame - b.frame);
        return i < 0 || i >= sorted.size() ? null : sorted.get(i);
    }

    int reserved(int i, int what) {
        if (i == -1) {
            return s().reservations.size();
        }
        Reservation r = numbered(i);
        if (r == null) {
            return -2;
        }
        return switch (what) {
            case 0 -> r.object;
            case 1 -> r.page;
            case 2 -> r.n;
            case 3 -> r.frame;
            case 4 -> r.time;
            case 5 -> thereOf(r);
            default -> -2;
        };
    }

    int let(int i) {
        if (i == -1) {
            return s().let.size();
        }
        return i < 0 || i >= s().let.size() ? -2 : s().let.get(i);
    }

    int is(int what) {
        return switch (what) {
            case 0 -> s().time;
            case 1 -> s().x;
            case 2 -> s().day;
            case 3 -> free();
            case 4 -> s().savings;
            default -> -2;
        };
    }

    int book(int i, int what) {
        if (i == -1) {
            return s().book.size();
        }
        if (i < 0 || i >= s().book.size()) {
            return -2;
        }
        Line l = s().book.get(i);
        return switch (what) {
            case 0 -> l.time;
            case 1 -> l.what;
            case 2 -> l.a;
            case 3 -> l.b;
            default -> -2;
        };
    }

    int foretold(int n, int what) {
        if (n < 1 || n > 60 || what < 0 || what > 2) {
            return -1;
        }
        State kept = s().twin();
        for (int i = 0; i < n && s().day < 9999; i++) {
            dayPasses();
        }
        int answer = what == 0 ? free() : s().reservations.size();
        if (what == 2) {
            answer = 0;
            for (int o = 0; o < all.sizes.size(); o++) {
                answer += entries(o);
            }
        }
        all.state = kept;
        return answer;
    }

    int would(int o, int p, int what) {
        if (!isPage(o, p) || what < 0 || what > 1 || s().pages[o][p].there) {
            return -1;
        }
        State kept = s().twin();
        int made = bring(o, p);
        int answer = made < 0 ? -1 : what == 0 ? made : frameOf(s().pages[o][p]);
        all.state = kept;
        return answer;
    }

    int victim(int n) {
        Reservation r = isBlock(n) ? victimOf(n) : null;
        return r == null ? -1 : r.frame;
    }

    int next(int n) {
        return isBlock(n) ? nextOf(n) : -1;
    }

    int entries(int o) {
        if (!isObject(o)) {
            return -1;
        }
        int sixteenths = 0;
        for (Page p : s().pages[o]) {
            sixteenths += p.level == 0 ? 0 : 16 / p.level;
        }
        return sixteenths / 16;
    }

    int ideal(int o) {
        if (!isObject(o)) {
            return -1;
        }
        int count = 0;
        for (int p = 0; p < all.sizes.get(o); count++) {
            int left = all.sizes.get(o) - p;
            p += p % 16 == 0 && left >= 16 ? 16 : p % 4 == 0 && left >= 4 ? 4 : 1;
        }
        return count;
    }

    int pages(int o, int p, int n) {
        if (!isPage(o, p) || !isBlock(n)) {
            return -1;
        }
        int count = 0;
        for (Page other : block(s().pages[o][p], n)) {
            count += other.there ? 1 : 0;
        }
        return count;
    }

    int holes(int n) {
        if (!isBlock(n)) {
            return -1;
        }
        int count = 0;
        for (int f = 0; f < 64; f += n) {
            count += allFree(f, n) ? 1 : 0;
        }
        return count;
    }

    int reach() {
        int count = 0;
        for (Page[] row : s().pages) {
            for (Page p : row) {
                count += p.level > 1 ? 1 : 0;
            }
        }
        return count;
    }

    int spread() {
        int n = holes(16) > 0 ? 16 : holes(4) > 0 ? 4 : 1;
        return free() - n * holes(n);
    }

    int digest(int o) {
        if (!isObject(o)) {
            return -1;
        }
        long sum = 0;
        for (int p = 0; p < all.sizes.get(o); p++) {
            sum = (31 * sum + s().pages[o][p].value) % 9973;
        }
        return (int) sum;
    }

    int alike(int a, int b) {
        if (!isObject(a) || !isObject(b)) {
            return -1;
        }
        int count = 0;
        for (int p = 0; p < 32; p++) {
            count += isPage(a, p) && isPage(b, p) && s().pages[a][p].value == s().pages[b][p].value ? 1 : 0;
        }
        return count;
    }

    int eldest(int o) {
        if (!isObject(o)) {
            return -1;
        }
        Page best = null;
        for (Page p : s().pages[o]) {
            if (p.there && (best == null || p.used < best.used)) {
                best = p;
            }
        }
        return best == null ? -1 : best.number;
    }

    long dirty(int o) {
        if (!isObject(o)) {
            return -1;
        }
        long bits = 0;
        for (Page p : s().pages[o]) {
            bits |= p.dirty ? 1L << p.number : 0;
        }
        return bits;
    }

    long there(int o) {
        if (!isObject(o)) {
            return -1;
        }
        long bits = 0;
        for (Page p : s().pages[o]) {
            bits |= p.there ? 1L << p.number : 0;
        }
        return bits;
    }

    boolean sound() {
        for (int f = 0; f < 64; f++) {
            int count = 0;
            for (Reservation r : s().reservations) {
                count += r.hasFrame(f) ? 1 : 0;
            }
            if (count > 1) {
                return false;
            }
        }
        for (Page[] row : s().pages) {
            for (Page p : row) {
                if (p.there && withPage(p.object, p.number) == null) {
                    return false;
                }
                if (p.level > 1) {
                    Reservation r = withPage(p.object, p.number);
                    for (Page q : block(p, p.level)) {
                        if (q.level != p.level || q.dirty != p.dirty || !r.hasPage(q.object, q.number)) {
                            return false;
                        }
                    }
                }
            }
        }
        return true;
    }

    int wants(int o, int p) {
        return isPage(o, p) ? wantsBy(law(), o, p) : -1;
    }

    boolean spares(int i) {
        Reservation r = numbered(i);
        return r != null && lets(r);
    }

    int said(int page, int wants) {
        if (page == -1) {
            all.said.clear();
            return 0;
        }
        if (!isPage(0, page) || wants < 1 || wants > 16 || all.said.size() == 8) {
            return -2;
        }
        all.said.add(new Saying(page, wants));
        return all.said.size();
    }

    int whose() {
        int bits = 0;
        for (int t = 0; t < all.texts.size(); t++) {
            boolean fits = true;
            for (Saying saying : all.said) {
                fits &= wantsBy(all.texts.get(t), 0, saying.page) == saying.wants;
            }
            bits |= fits ? 1 << t : 0;
        }
        return bits;
    }

    int ledger(int what) {
        if (what < 0 || what > 5) {
            return -2;
        }
        int count = 0;
        for (Line l : s().book) {
            count += l.what == what ? 1 : 0;
        }
        return count;
    }

    int image() {
        image = all.twin();
        return s().time;
    }

    int back() {
        all = image.twin();
        return s().time;
    }

    int about(int what) {
        return switch (what) {
            case 0 -> all.sizes.size();
            case 1 -> all.texts.size();
            case 2 -> all.ruling;
            case 3 -> all.steps.size();
            case 4 -> all.said.size();
            case 5 -> tape.length();
            default -> -2;
        };
    }
}
