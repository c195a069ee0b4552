import java.util.ArrayList;
import java.util.List;
import java.util.Random;

/** Holds the class against the model: runs of drawn calls, each answer alike, and all that can be asked alike. */
public final class ModelTest {
    private static final int RUNS = Integer.getInteger("runs", 400);
    private static final int CALLS = 400;

    private final Random random;
    private final LargePages x = new LargePages();
    private final Model m = new Model();
    private final List<String> calls = new ArrayList<>();
    private boolean failed;

    private ModelTest(long seed) {
        random = new Random(seed);
    }

    public static void main(String[] args) {
        int wrong = 0;
        long first = Long.getLong("seed", 1);
        for (long seed = first; seed < first + RUNS && wrong < 3; seed++) {
            ModelTest run = new ModelTest(seed);
            try {
                run.play();
            } catch (RuntimeException e) {
                run.calls.add("threw " + e + " at " + e.getStackTrace()[0]);
                run.failed = true;
            }
            if (run.failed) {
                wrong++;
                System.out.println("seed " + seed + ":");
                run.calls.forEach(System.out::println);
            }
        }
        System.out.println("ModelTest: " + (wrong == 0 ? "all answers are alike" : "answers are unlike"));
        if (wrong != 0) {
            System.exit(1);
        }
    }

    private void alike(String call, long got, long due) {
        if (got != due && !failed) {
            calls.add(call + " answered " + got + ", the model " + due);
            failed = true;
        }
    }

    private void did(String call, long got, long due) {
        calls.add(call + " = " + due);
        alike(call, got, due);
    }

    private int below(int n) {
        return random.nextInt(n);
    }

    /** Mostly least .. most, now and then beside it. */
    private int about(int least, int most) {
        int dice = below(40);
        if (dice == 0) {
            return least - 1;
        }
        if (dice == 1) {
            return most + 1;
        }
        if (dice == 2) {
            return new int[] {Integer.MIN_VALUE, Integer.MAX_VALUE, -2, 1000, -1}[below(5)];
        }
        return least + below(most - least + 1);
    }

    private int object() {
        return about(0, Math.max(0, m.all.sizes.size() - 1));
    }

    private int page(int object) {
        boolean told = object >= 0 && object < m.all.sizes.size();
        return about(0, told ? m.all.sizes.get(object) - 1 : 31);
    }

    private int block() {
        return below(20) == 0 ? about(0, 17) : new int[] {1, 4, 16}[below(3)];
    }

    private void play() {
        int style = below(5);
        int objects = style == 0 ? below(4) : 2 + below(3);
        for (int i = 0; i < objects; i++) {
            int size = style < 3 ? 32 : 1 + below(32);
            did("object(" + size + ")", x.object(size), m.object(size));
        }
        if (below(2) == 0) {
            readText();
            did("by(0)", x.by(0) ? 1 : 0, m.by(0) ? 1 : 0);
        }
        for (int i = 0; i < CALLS && !failed; i++) {
            change(style);
            if (below(4) == 0) {
                askAll();
            } else {
                askOne();
            }
        }
    }

    private void change(int style) {
        int dice = below(100);
        int o = object();
        int p = page(o);
        if (dice < 40) {
            if (style == 1 || below(3) == 0) {
                p = i4(p);
            }
            did("touch(" + o + ", " + p + ")", x.touch(o, p), m.touch(o, p));
        } else if (dice < 62) {
            int v = below(3) == 0 ? about(0, 99) : below(3);
            did("write(" + o + ", " + p + ", " + v + ")", x.write(o, p, v), m.write(o, p, v));
        } else if (dice < 70) {
            int b = object();
            int q = page(b);
            did("copy(" + o + ", " + p + ", " + b + ", " + q + ")", x.copy(o, p, b, q), m.copy(o, p, b, q));
        } else if (dice < 75) {
            did("sweep(" + o + ")", x.sweep(o), m.sweep(o));
        } else if (dice < 78) {
            int n = block();
            did("empty(" + n + ")", x.empty(n), m.empty(n));
        } else if (dice == 78) {
            did("drop(" + o + ")", x.drop(o) ? 1 : 0, m.drop(o) ? 1 : 0);
        } else if (dice < 82) {
            int n = below(3) == 0 ? about(1, 60) : 1 + below(3);
            did("day(" + n + ")", x.day(n), m.day(n));
        } else if (dice == 82) {
            int seed = about(0, 9999);
            int n = about(1, 40);
            did("years(" + seed + ", " + n + ")", x.years(seed, n), m.years(seed, n));
        } else if (dice < 87) {
            did("undo()", x.undo(), m.undo());
        } else if (dice < 91) {
            readText();
        } else if (dice < 94) {
            int t = about(-1, Math.max(0, m.all.texts.size() - 1));
            did("by(" + t + ")", x.by(t) ? 1 : 0, m.by(t) ? 1 : 0);
        } else if (dice == 94) {
            int t = about(0, Math.max(0, m.all.texts.size() - 1));
            did("played(" + t + ")", x.played(t), m.played(t));
        } else if (dice == 95) {
            int w = about(1, 16);
            int page = about(-1, 31);
            did("said(" + page + ", " + w + ")", x.said(page, w), m.said(page, w));
        } else if (dice == 96) {
            int size = about(1, 32);
            did("object(" + size + ")", x.object(size), m.object(size));
        } else if (dice == 97) {
            did("image()", x.image(), m.image());
        } else if (dice == 98 && below(3) == 0) {
            did("back()", x.back(), m.back());
        } else {
            fillBlock(o, p);
        }
    }

    private static int i4(int p) {
        return p < 0 || p > 31 ? p : p / 16 * 16;
    }

    /** Whole blocks by chance are rare, and so would be levels of 16. */
    private void fillBlock(int o, int p) {
        if (p < 0 || p > 31) {
            return;
        }
        boolean write = below(2) == 0;
        int n = below(2) == 0 ? 16 : 4;
        for (int i = p / n * n; i < p / n * n + n; i++) {
            if (write) {
                did("write(" + o + ", " + i + ", 7)", x.write(o, i, 7), m.write(o, i, 7));
            } else {
                did("touch(" + o + ", " + i + ")", x.touch(o, i), m.touch(o, i));
            }
        }
    }

    private void readText() {
        String text = new Texts(random).text();
        if (below(3) == 0 && !text.isEmpty()) {
            char[] signs = "<>=#+-*/(); 19azidle?\n\u0000\u00e9".toCharArray();
            int at = below(text.length());
            text = text.substring(0, at) + signs[below(signs.length)] + text.substring(at + below(2));
        }
        if (text.length() > 300) {
            text = text.substring(0, 300);
        }
        if (below(10) != 0) {
            did("end(0)", x.end(0), m.end(0));
        }
        for (int i = 0; i < text.length(); i += 20) {
            int[] w = words(text, i);
            did("feed(.. " + i + ")", x.feed(w[0], w[1], w[2], w[3], w[4]), m.feed(w[0], w[1], w[2], w[3], w[4]));
        }
        int n = below(20) == 0 ? about(0, 300) : text.length();
        did("end(" + n + ") of " + text, x.end(n), m.end(n));
        did("text()", x.text(), m.text());
        alike("fault(0)", x.fault(0), m.fault(0));
        alike("fault(1)", x.fault(1), m.fault(1));
    }

    private static int[] words(String text, int from) {
        int[] w = new int[5];
        for (int i = 0; i < 20; i++) {
            int b = from + i < text.length() ? text.charAt(from + i) : 0;
            w[i / 4] = w[i / 4] << 8 | b;
        }
        return w;
    }

    private void askOne() {
        int a = about(-1, 32);
        int b = about(-1, 6);
        int o = object();
        int p = page(o);
        alike("reserved " + a + " " + b, x.reserved(a, b), m.reserved(a, b));
        alike("book " + a + " " + b, x.book(a, b), m.book(a, b));
        alike("let " + b, x.let(b), m.let(b));
        alike("is " + b, x.is(b), m.is(b));
        alike("about " + b, x.about(b), m.about(b));
        alike("ledger " + b, x.ledger(b), m.ledger(b));
        alike("page " + o + " " + p + " " + b, x.page(o, p, b), m.page(o, p, b));
        alike("fault " + b, x.fault(b), m.fault(b));
        int n = about(1, 60);
        int w = about(0, 2);
        alike("foretold " + n + " " + w, x.foretold(n, w), m.foretold(n, w));
        alike("would", x.would(o, p, w), m.would(o, p, w));
        alike("wants", x.wants(o, p), m.wants(o, p));
        alike("spares", x.spares(a) ? 1 : 0, m.spares(a) ? 1 : 0);
        askPages(o, p);
        alike("alike " + o + " " + b, x.alike(o, b), m.alike(o, b));
    }

    private void askPages(int o, int p) {
        for (int n : new int[] {-4, 0, 1, 2, 4, 8, 16, 17}) {
            alike("pages " + o + " " + p + " " + n, x.pages(o, p, n), m.pages(o, p, n));
        }
    }

    private void askAll() {
        for (int o = -1; o < 5; o++) {
            alike("entries " + o, x.entries(o), m.entries(o));
            alike("ideal " + o, x.ideal(o), m.ideal(o));
            alike("digest " + o, x.digest(o), m.digest(o));
            alike("eldest " + o, x.eldest(o), m.eldest(o));
            alike("dirty " + o, x.dirty(o), m.dirty(o));
            alike("there " + o, x.there(o), m.there(o));
            for (int p = 0; p < 32; p++) {
                for (int what = 0; what < 6; what++) {
                    alike("page " + o + " " + p + " " + what, x.page(o, p, what), m.page(o, p, what));
                }
                alike("would " + o + " " + p + " 0", x.would(o, p, 0), m.would(o, p, 0));
                alike("would " + o + " " + p + " 1", x.would(o, p, 1), m.would(o, p, 1));
                alike("wants " + o + " " + p, x.wants(o, p), m.wants(o, p));
            }
        }
        for (int f = -1; f < 65; f++) {
            alike("frame " + f, x.frame(f), m.frame(f));
            alike("spares " + f, x.spares(f) ? 1 : 0, m.spares(f) ? 1 : 0);
        }
        for (int n : new int[] {-4, 0, 1, 2, 4, 8, 16, 17}) {
            alike("victim " + n, x.victim(n), m.victim(n));
            alike("next " + n, x.next(n), m.next(n));
            alike("holes " + n, x.holes(n), m.holes(n));
        }
        for (int i = -1; i < 26; i++) {
            for (int what = 0; what < 6; what++) {
                alike("reserved " + i + " " + what, x.reserved(i, what), m.reserved(i, what));
                alike("book " + i + " " + what, x.book(i, what), m.book(i, what));
            }
        }
        for (int what = 0; what < 6; what++) {
            alike("is " + what, x.is(what), m.is(what));
            alike("about " + what, x.about(what), m.about(what));
        }
        alike("reach", x.reach(), m.reach());
        alike("spread", x.spread(), m.spread());
        alike("sound", x.sound() ? 1 : 0, 1);
        alike("sound by the model", m.sound() ? 1 : 0, 1);
        alike("whose", x.whose(), m.whose());
    }
}
