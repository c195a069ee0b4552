import java.io.IOException;
import java.nio.file.Files;
import java.nio.file.Path;
import java.util.ArrayList;
import java.util.List;
import java.util.Map;
import java.util.TreeMap;

/**
 * What the tests of boundary cases share: each case stands under the words of the document that name it.
 * The words must stand in the document so, and those of a promise must be all of it, so that none is left out.
 */
final class Edge {
    private static final Path DOCUMENT = Path.of("../shared/DOC.md");
    private static final Map<Integer, List<String>> PROMISES = new TreeMap<>();
    private static final List<String> TERMS = new ArrayList<>();

    private Edge() {
    }

    static void terms(String words) {
        TERMS.add(words);
        Desk.under("\"" + words + "\"");
    }

    static void promise(int number, String words) {
        PROMISES.computeIfAbsent(number, n -> new ArrayList<>()).add(words);
        Desk.under("promise " + number + ", \"" + words + "\"");
    }

    static void close(String test) throws IOException {
        String[] parts = Files.readString(DOCUMENT).split("## Promise ");
        Desk.under("the document");
        for (String words : TERMS) {
            Desk.due("it has the words " + words, parts[0].contains(words), true);
        }
        for (Map.Entry<Integer, List<String>> one : PROMISES.entrySet()) {
            quoted(parts[one.getKey()], one.getKey(), one.getValue());
        }
        Desk.close(test);
    }

    /** What the words leave of a promise must be blanks, commas and the like. */
    private static void quoted(String part, int number, List<String> words) {
        Desk.due("the number of the promise", part.startsWith(number + ": "), true);
        String left = part.substring(part.indexOf("`: ") + 3).split("\n")[0];
        for (String one : words) {
            Desk.due("promise " + number + " has the words " + one, part.contains(one), true);
            left = left.replace(one, " ");
        }
        Desk.due("words of promise " + number + " without a test: " + left, left.replaceAll("[ .,:;]", "").isEmpty(), true);
    }

    /** Numbers below and above those that are meant, the farthest too. */
    static int[] beside(int least, int most) {
        return new int[] {Integer.MIN_VALUE, least - 100, least - 2, least - 1, most + 1, most + 2, most + 100, Integer.MAX_VALUE};
    }

    /** No sizes of blocks. */
    static int[] noBlocks() {
        return new int[] {Integer.MIN_VALUE, -16, -4, -1, 0, 2, 3, 5, 8, 15, 17, 20, 32, 64, Integer.MAX_VALUE};
    }

    /** All that can be asked of the state, to be held against what it is later. */
    static String stand(LargePages x) {
        StringBuilder b = new StringBuilder();
        for (int o = 0; o < x.about(0); o++) {
            for (int p = 0; p < 32; p++) {
                for (int what = 0; what < 6; what++) {
                    b.append(x.page(o, p, what)).append(' ');
                }
            }
        }
        for (int i = -1; i < x.reserved(-1, 0); i++) {
            for (int what = 0; what < 6; what++) {
                b.append(x.reserved(i, what)).append(' ');
            }
        }
        for (int i = -1; i < x.book(-1, 0); i++) {
            for (int what = 0; what < 4; what++) {
                b.append(x.book(i, what)).append(' ');
            }
        }
        for (int i = -1; i < 3; i++) {
            b.append(x.let(i)).append(' ');
        }
        for (int what = 0; what < 6; what++) {
            b.append(x.is(what)).append(' ').append(x.about(what)).append(' ').append(x.fault(what)).append(' ');
        }
        return b.append(x.whose()).toString();
    }

    /** Nothing was done since. */
    static void same(LargePages x, String stand) {
        Desk.due("nothing is done", stand(x).equals(stand), true);
    }

    /** Three objects of 32; all pages of the first two are there, in all frames, in four reservations of 16. */
    static LargePages packed() {
        LargePages x = Desk.with(32, 32, 32);
        Desk.touch(x, 0, 0, 32);
        Desk.touch(x, 1, 0, 32);
        return x;
    }

    /** Four objects of 32; four reservations of 16 with their first pages alone have all frames. */
    static LargePages claimed() {
        LargePages x = Desk.with(32, 32, 32, 32);
        x.touch(0, 0);
        x.touch(0, 16);
        x.touch(1, 0);
        x.touch(1, 16);
        return x;
    }

    /** Days pass without objects, so nothing is drawn in them, up to this one (1440 at least). */
    static LargePages onDay(int day) {
        LargePages x = new LargePages();
        Desk.text(x, "day 60;".repeat(24));
        while (x.is(2) + 1440 <= day) {
            x.played(0);
        }
        while (x.is(2) < day) {
            x.day(Math.min(60, day - x.is(2)));
        }
        return x;
    }
}
