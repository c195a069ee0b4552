import java.io.IOException;
import java.lang.reflect.Method;
import java.lang.reflect.Modifier;
import java.nio.file.Files;
import java.nio.file.Path;

/** README.md tells calls and texts as they are: each line that is tried here must stand in it so. */
public final class ReadmeTest {
    private static String page;

    public static void main(String[] args) throws IOException {
        page = Files.readString(Path.of("README.md"));
        pages();
        law();
        laws();
        deeds();
        names();
        Desk.close("ReadmeTest");
    }

    private static void told(String words) {
        Desk.under("README.md, \"" + words + "\"");
        Desk.due("it stands there", page.contains(words), true);
    }

    private static void pages() {
        LargePages x = new LargePages();
        told("int object = x.object(20);            // an object of 20 pages: 0\n");
        int object = x.object(20);
        Desk.due("object", object, 0);
        told("int frame = x.touch(object, 5);       // its fault reserves 16 frames; the page is in frame 5\n");
        Desk.due("touch", x.touch(object, 5), 5);
        Desk.due("reserved(0, 2)", x.reserved(0, 2), 16);
        told("x.write(object, 5, 42);               // dirty now: page(0, 5, 1) is 1\n");
        Desk.due("write", x.write(object, 5, 42), 5);
        Desk.due("page(0, 5, 1)", x.page(0, 5, 1), 1);
        told("x.sweep(object);                      // 1: its value is saved, page(0, 5, 3) is 42\n");
        Desk.due("sweep", x.sweep(object), 1);
        Desk.due("page(0, 5, 3)", x.page(0, 5, 3), 42);
        told("x.undo();                             // 2 steps can be taken back yet; page(0, 5, 3) is 0 again\n");
        Desk.due("undo", x.undo(), 2);
        Desk.due("page(0, 5, 3)", x.page(0, 5, 3), 0);
    }

    private static void law() {
        LargePages x = Desk.with(20);
        told("x.feed(0x77616e74, 0x7320343b, 0, 0, 0);   // 20: the bytes of \"wants 4;\", and twelve too many\n");
        Desk.due("feed", x.feed(0x77616e74, 0x7320343b, 0, 0, 0), 20);
        told("x.end(8);                                  // 8\n");
        Desk.due("end", x.end(8), 8);
        told("int text = x.text();                       // 0, or NONE: then fault(0) and fault(1) say what and where\n");
        int text = x.text();
        Desk.due("text", text, 0);
        told("x.by(text);                                // true: the next reservations have 4 frames at most\n");
        Desk.due("by", x.by(text), true);
        x.touch(0, 0);
        Desk.due("reserved(0, 2)", x.reserved(0, 2), 4);
    }

    private static void laws() {
        LargePages x = Desk.with(32, 32, 32);
        told("wants if free < 16 then 4 else 16 end; ");
        told("spares idle - holds; ");
        Desk.law(x, "wants if free < 16 then 4 else 16 end;\nspares idle - holds;");
        Desk.touch(x, 0, 0, 17);
        x.touch(1, 0);
        Desk.due("wants, 16 are free", x.wants(0, 0), 16);
        Desk.due("spares, idle 2 less 1", x.spares(1), true);
        Desk.due("spares, idle 1 less 1", x.spares(2), false);
        x.touch(1, 16);
        Desk.due("wants, none is free", x.wants(0, 0), 4);
    }

    private static void deeds() {
        LargePages x = new LargePages();
        String deeds = "object 32; touch 3 of 0; write 3 of 0 by 7; sweep 0; empty 4; drop 0; day 5;";
        told("\n" + deeds + " ");
        Desk.due("text", Desk.text(x, deeds), 0);
        Desk.due("played", x.played(0), -1);
        Desk.due("about(3)", x.about(3), 10);
        Desk.due("page(0, 3, 3)", x.page(0, 3, 3), 7);
    }

    /** Every call of the face is in the table of calls. */
    private static void names() {
        Desk.under("README.md, Calls");
        int from = Math.max(0, page.indexOf("### Calls"));
        String table = page.substring(from, Math.max(from, page.indexOf("### Texts")));
        for (Method one : LargePages.class.getDeclaredMethods()) {
            if (Modifier.isPublic(one.getModifiers())) {
                Desk.due("it has " + one.getName(), table.contains("`" + one.getName() + "`"), true);
            }
        }
    }
}
