import java.io.IOException;
import java.lang.reflect.Constructor;
import java.lang.reflect.Field;
import java.lang.reflect.Method;
import java.lang.reflect.Modifier;
import java.nio.file.Files;
import java.nio.file.Path;
import java.util.Arrays;
import java.util.Set;
import java.util.TreeSet;

/** The public face, and those rules of LANGUAGE.md that can be seen without understanding the code. */
public final class FaceTest {
    private static final Check CHECK = new Check();

    public static void main(String[] args) throws IOException {
        face();
        constants();
        nested();
        source(Files.readString(Path.of("src/main/java/GlyphPage.java")));
        anyCalls();
        CHECK.finish();
    }

    private static Set<String> set(String... names) {
        return new TreeSet<>(Arrays.asList(names));
    }

    private static void same(String what, Set<String> got, Set<String> want) {
        if (!got.equals(want)) {
            System.out.println(what + ": " + got + " instead of " + want);
        }
        CHECK.isTrue(what, got.equals(want));
    }

    private static void face() {
        Set<String> open = set();
        Set<String> names = set();
        for (Method method : GlyphPage.class.getDeclaredMethods()) {
            if (!Modifier.isPrivate(method.getModifiers())) {
                open.add(method.getReturnType() + " " + method.getName() + " "
                        + method.getParameterCount() + " " + Modifier.toString(method.getModifiers()));
                names.add(method.getName());
            }
            for (Class<?> type : method.getParameterTypes()) {
                CHECK.isTrue(method + " takes int alone", type == int.class
                        || Modifier.isPrivate(method.getModifiers()));
            }
        }
        same("methods", open, set("int feed 5 public", "int end 1 public", "int font 0 public",
                "int size 1 public", "int glyph 1 public", "int metric 1 public",
                "int look 2 public", "int point 3 public", "int kern 2 public",
                "int winding 3 public", "int stamp 3 public", "int text 3 public",
                "int line 2 public", "int pixel 2 public", "long row 1 public",
                "int inked 0 public", "int clear 0 public"));
        for (Class<?> inside : GlyphPage.class.getDeclaredClasses()) {
            for (Method method : inside.getDeclaredMethods()) {
                CHECK.isTrue(method + " has a name of its own", !names.contains(method.getName()));
            }
        }
        for (Method method : GlyphPage.class.getDeclaredMethods()) {
            CHECK.isTrue(method + " has a name of its own", !names.contains(method.getName())
                    || Modifier.isPublic(method.getModifiers()));
        }
        Constructor<?>[] constructors = GlyphPage.class.getDeclaredConstructors();
        CHECK.due("constructors", constructors.length, 1);
        CHECK.isTrue("public constructor", Modifier.isPublic(constructors[0].getModifiers()));
        CHECK.isTrue("public final class", GlyphPage.class.getModifiers()
                == (Modifier.PUBLIC | Modifier.FINAL));
    }

    private static void constants() {
        CHECK.due("REFUSED", GlyphPage.REFUSED, -1);
        CHECK.due("NONE", GlyphPage.NONE, -2);
        CHECK.due("FULL", GlyphPage.FULL, -3);
        Set<String> open = set();
        for (Field field : GlyphPage.class.getDeclaredFields()) {
            if (!Modifier.isPrivate(field.getModifiers())) {
                open.add(Modifier.toString(field.getModifiers()) + " " + field.getName());
            }
        }
        same("fields", open, set("public static final REFUSED", "public static final NONE",
                "public static final FULL"));
    }

    private static void nested() {
        Class<?>[] inside = GlyphPage.class.getDeclaredClasses();
        CHECK.isTrue("at most some twelve classes", inside.length < 12);
        for (Class<?> type : inside) {
            CHECK.isTrue(type + " is static", Modifier.isStatic(type.getModifiers()));
            CHECK.isTrue(type + " is not public", !Modifier.isPublic(type.getModifiers())
                    && !Modifier.isProtected(type.getModifiers()));
            int fields = 0;
            for (Field field : type.getDeclaredFields()) {
                boolean isStatic = Modifier.isStatic(field.getModifiers());
                CHECK.isTrue(field + " is final if static", !isStatic
                        || Modifier.isFinal(field.getModifiers()));
                fields += isStatic ? 0 : 1;
            }
            CHECK.isTrue(type + " has few fields", fields <= 20);
            for (Method method : type.getDeclaredMethods()) {
                CHECK.isTrue(method + " takes at most seven", method.getParameterCount() <= 7);
            }
        }
    }

    private static void source(String text) {
        String code = text.replaceAll("(?s)/\\*.*?\\*/", "").replaceAll("//[^\n]*", "");
        String[] words = {"throw", "throws", "try", "catch", "synchronized", "assert", "package",
            "instanceof", "Exact", "multiplyHigh", "System", "Random", "Thread"};
        for (String word : words) {
            CHECK.isTrue("no " + word, !code.matches("(?s).*\\b" + word + "\\b.*"));
        }
        CHECK.isTrue("no lambda, no method reference", !code.contains("->") && !code.contains("::"));
        CHECK.isTrue("one import", code.split("\\bimport\\b").length == 2
                && code.contains("import java.util.Arrays;"));
    }

    /** No call may throw or fail to end, whatever comes: files of noise and numbers at the edges. */
    private static void anyCalls() {
        int[] edges = {Integer.MIN_VALUE, -20001, -20000, -1, 0, 1, 2, 3, 63, 64, 200, 4096, 20000,
            20001, 65535, 65536, Integer.MAX_VALUE};
        for (int start = 0; start < 2; start++) {
            for (int a : edges) {
                GlyphPage page = new GlyphPage(a, -a);
                if (start == 1) {
                    FontMaker.plain().load(page);
                }
                for (int b : edges) {
                    call(page, a, b);
                }
            }
        }
        noise();
    }

    private static void call(GlyphPage page, int a, int b) {
        page.feed(a, b, a, b, a);
        page.end(b);
        page.size(a);
        page.glyph(a);
        page.metric(a);
        page.look(a, b);
        page.point(a, b, 0);
        page.point(1, a, b);
        page.kern(a, b);
        page.winding(1, a, b);
        page.winding(a, b, b);
        page.stamp(1, a, b);
        page.stamp(a, b, b);
        page.text(a, b, 0);
        page.text(0, a, b);
        page.line(a, b);
        page.pixel(a, b);
        page.row(a);
        int inked = page.inked();
        CHECK.due("clear after " + a + ", " + b, page.clear(), inked);
        page.font();
    }

    /** Every byte of a good file spoilt in turn, its sums made good again. */
    private static void noise() {
        FontMaker maker = FontMaker.plain();
        maker.add(FontMaker.composite(1, 5, 5, 1, 50, 50), 9);
        maker.pairs.add(new int[] {0, 1, 5});
        int good = 0;
        for (String tag : maker.allTables().keySet()) {
            int length = maker.allTables().get(tag).length;
            for (int i = 0; i < length; i++) {
                for (int v : new int[] {0, 1, 2, 127, 128, 255}) {
                    byte[] table = maker.allTables().get(tag).clone();
                    table[i] = (byte) v;
                    FontMaker spoilt = FontMaker.plain();
                    spoilt.add(maker.glyphs.get(2), 9);
                    spoilt.pairs.add(maker.pairs.get(0));
                    spoilt.tables.put(tag, table);
                    good += use(spoilt);
                }
            }
        }
        CHECK.isTrue("some spoilt files are good", good > 100);
    }

    private static int use(FontMaker maker) {
        GlyphPage page = new GlyphPage(20, 20);
        if (maker.load(page) != 0) {
            return 0;
        }
        FontMaker.feed(page, "a a-a\na");
        page.text(0, 640, 1000);
        for (int g = 0; g < 3; g++) {
            page.stamp(g, 5, 700);
            page.point(g, 0, 3);
        }
        return 1;
    }
}
