import java.io.IOException;
import java.lang.reflect.Constructor;
import java.lang.reflect.Field;
import java.lang.reflect.Method;
import java.lang.reflect.Modifier;
import java.nio.file.Files;
import java.nio.file.Path;
import java.util.Set;
import java.util.TreeSet;
import java.util.regex.Matcher;
import java.util.regex.Pattern;

/** The public face of the document, and the rules of LANGUAGE.md that a program can look at. */
public final class FaceTest {
    private static final String FACE = """
        int object(int); int feed(int,int,int,int,int); int end(int); int text(); int fault(int); boolean by(int);
        int touch(int,int); int write(int,int,int); int copy(int,int,int,int); int sweep(int); int empty(int);
        boolean drop(int); int day(int); int played(int); int years(int,int); int undo(); int page(int,int,int);
        int frame(int); int reserved(int,int); int let(int); int is(int); int book(int,int); int foretold(int,int);
        int would(int,int,int); int victim(int); int next(int); int entries(int); int ideal(int);
        int pages(int,int,int); int holes(int); int reach(); int spread(); int digest(int); int alike(int,int);
        int eldest(int); long dirty(int); long there(int); boolean sound(); int wants(int,int); boolean spares(int);
        int said(int,int); int whose(); int ledger(int); int image(); int back(); int about(int);""";

    public static void main(String[] args) throws IOException {
        face();
        members();
        classes();
        source();
        Desk.close("FaceTest");
    }

    private static Set<String> due() {
        Set<String> set = new TreeSet<>();
        for (String one : FACE.split(";")) {
            set.add(one.strip());
        }
        return set;
    }

    private static void say(String what, boolean holds) {
        Desk.due(what, holds, true);
    }

    private static void face() {
        Class<?> c = LargePages.class;
        say("public and final", Modifier.isPublic(c.getModifiers()) && Modifier.isFinal(c.getModifiers()));
        Set<String> found = new TreeSet<>();
        for (Method m : c.getDeclaredMethods()) {
            if (Modifier.isPrivate(m.getModifiers()) || m.isSynthetic()) {
                continue;
            }
            say(m.getName() + " is public", Modifier.isPublic(m.getModifiers()) && !Modifier.isStatic(m.getModifiers()));
            StringBuilder b = new StringBuilder(m.getReturnType() + " " + m.getName() + "(");
            for (Class<?> type : m.getParameterTypes()) {
                b.append(b.charAt(b.length() - 1) == '(' ? "" : ",").append(type);
            }
            found.add(b.append(")").toString());
        }
        say("the methods of the face: " + found, found.equals(due()));
        Constructor<?>[] made = c.getDeclaredConstructors();
        say("one constructor", made.length == 1 && made[0].getParameterCount() == 0
                && Modifier.isPublic(made[0].getModifiers()));
        Desk.due("NONE", LargePages.NONE, -1);
    }

    private static void members() {
        Set<String> names = new TreeSet<>();
        for (String one : due()) {
            names.add(one.substring(one.indexOf(' ') + 1, one.indexOf('(')));
        }
        for (Field f : LargePages.class.getDeclaredFields()) {
            boolean none = f.getName().equals("NONE") && Modifier.isPublic(f.getModifiers());
            say(f + " is private", none || Modifier.isPrivate(f.getModifiers()));
            say(f + " is final", Modifier.isFinal(f.getModifiers()));
        }
        for (Method m : LargePages.class.getDeclaredMethods()) {
            if (Modifier.isPrivate(m.getModifiers())) {
                say(m + " bears no public name", !names.contains(m.getName()));
            }
        }
        for (Class<?> inner : LargePages.class.getDeclaredClasses()) {
            for (Method m : inner.getDeclaredMethods()) {
                say(m + " bears no public name", !names.contains(m.getName()));
            }
        }
    }

    private static void classes() {
        Class<?>[] inner = LargePages.class.getDeclaredClasses();
        say("twelve classes at most", inner.length < 12);
        for (Class<?> c : inner) {
            say(c + " is static", Modifier.isStatic(c.getModifiers()));
            say(c + " holds no class", c.getDeclaredClasses().length == 0);
            int fields = 0;
            for (Field f : c.getDeclaredFields()) {
                if (Modifier.isStatic(f.getModifiers())) {
                    say(f + " is final", Modifier.isFinal(f.getModifiers()));
                } else {
                    fields++;
                }
            }
            say(c + " has twenty fields at most", fields <= 20);
            for (Method m : c.getDeclaredMethods()) {
                say(m + " takes seven at most", m.getParameterCount() <= 7);
            }
        }
    }

    private static void source() throws IOException {
        String text = Files.readString(Path.of("src/main/java/LargePages.java"));
        String bare = text.replaceAll("/\\*(?s:.*?)\\*/|//[^\n]*", "").replaceAll("\"[^\"\n]*\"", "\"\"");
        for (String word : new String[] {"throw", "throws", "try", "catch", "synchronized", "assert", "package",
            "out", "\\w+Exact", "hashCode", "toString", "Random", "protected", "native"}) {
            say("no " + word, !Pattern.compile("\\b" + word + "\\b").matcher(bare).find());
        }
        say("no lambda", !bare.contains("->"));
        say("no method reference", !bare.contains("::"));
        Matcher imports = Pattern.compile("import ([^;]*);").matcher(bare);
        while (imports.find()) {
            say(imports.group(), imports.group(1).equals("java.util.Arrays"));
        }
        Matcher library = Pattern.compile("\\b(System|Arrays|Math|Integer|Long|String)\\.(\\w+)").matcher(bare);
        while (library.find()) {
            say(library.group(), Set.of("System.arraycopy", "Arrays.fill", "Arrays.copyOf", "Math.max", "Math.min",
                    "Integer.bitCount", "Long.bitCount").contains(library.group()));
        }
        for (int i = 0; i < text.length(); i++) {
            if (text.charAt(i) > 126) {
                say("plain signs alone", false);
            }
        }
        methodsAreShort(text);
    }

    private static void methodsAreShort(String text) {
        String[] lines = text.split("\n");
        int begun = -1;
        String end = "";
        for (int i = 0; i < lines.length; i++) {
            if (begun < 0 && lines[i].matches("( {4}| {8})[a-zA-Z].*\\) \\{")) {
                begun = i;
                end = lines[i].replaceAll("\\S.*", "") + "}";
            } else if (begun >= 0 && lines[i].equals(end)) {
                say(lines[begun].strip() + " has sixty lines at most", i - begun < 60);
                begun = -1;
            }
        }
    }
}
