import java.io.IOException;
import java.lang.reflect.Field;
import java.lang.reflect.Method;
import java.lang.reflect.Modifier;
import java.nio.ByteBuffer;
import java.nio.charset.StandardCharsets;
import java.nio.file.Files;
import java.nio.file.Path;
import java.util.Arrays;
import java.util.stream.Stream;

/** README.md: its example is the one that runs here, and it names every call and every test. */
public final class ReadmeTest {
    private static final Check CHECK = new Check();

    public static void main(String[] args) throws IOException {
        String readme = Files.readString(Path.of("README.md"));
        for (Method method : GlyphPage.class.getDeclaredMethods()) {
            if (Modifier.isPublic(method.getModifiers())) {
                CHECK.isTrue("README tells of " + method.getName(),
                        readme.contains("`" + method.getName() + "("));
            }
        }
        for (Field field : GlyphPage.class.getFields()) {
            CHECK.isTrue("README tells of " + field.getName(), readme.contains("`" + field.getName() + "`"));
        }
        try (Stream<Path> files = Files.list(Path.of("src/test/java"))) {
            files.map(file -> file.getFileName().toString().replace(".java", "")).forEach(name ->
                    CHECK.isTrue("README tells of " + name, readme.contains("`" + name + "`")));
        }
        String source = Files.readString(Path.of("src/test/java/ReadmeTest.java"));
        CHECK.isTrue("README has the example that runs here",
                bare(source).contains(bare(block(readme, "```java"))));
        String picture = block(readme, "```text");
        String drawn = example(font());
        if (!drawn.equals(picture)) {
            System.out.println(drawn);
        }
        CHECK.isTrue("README has the picture that the example draws", drawn.equals(picture));
        putAll();
        CHECK.finish();
    }

    private static String block(String readme, String fence) {
        int from = readme.indexOf(fence) + fence.length() + 1;
        return readme.substring(from, readme.indexOf("```", from));
    }

    private static String bare(String code) {
        return code.replaceAll("(?m)^ +", "");
    }

    private static byte[] font() {
        FontMaker maker = new FontMaker();
        maker.units = 1000;
        maker.ascent = 700;
        maker.descent = -200;
        maker.gap = 100;
        maker.add(new byte[0], 300);
        maker.add(FontMaker.simple(new int[][] {
            {0, 0, 1, 300, 700, 1, 600, 0, 1, 450, 0, 1, 300, 400, 1, 150, 0, 1}}), 650);
        maker.add(FontMaker.simple(new int[][] {
            {0, 0, 0, 0, 700, 0, 700, 700, 0, 700, 0, 0},
            {150, 150, 0, 550, 150, 0, 550, 550, 0, 150, 550, 0}}), 800);
        maker.segments.add(new int[] {'A', 'A', 65536 - 'A' + 1, 0});
        maker.segments.add(new int[] {'O', 'O', 65536 - 'O' + 2, 0});
        maker.segments.add(new int[] {65535, 65535, 1, 0});
        maker.pairs.add(new int[] {1, 2, -50});
        return maker.file();
    }

    /** The way of putting bytes on the tape holds for all lengths, that of a full tape too. */
    private static void putAll() {
        for (int length : new int[] {0, 1, 19, 20, 21, 40, 4079, 4080, 4081, 4095, 4096}) {
            GlyphPage page = new GlyphPage(1, 1);
            put(page, new byte[length]);
            CHECK.due("all of " + length + " bytes", page.end(length), length);
            CHECK.due("no more than " + length + " bytes", page.end(length + 1), GlyphPage.REFUSED);
        }
    }

    static String example(byte[] file) {
        GlyphPage page = new GlyphPage(20, 19);     // pixels, 1 to 64 each
        put(page, file);
        if (page.font() != 0) {                     // the number of the rule that the file breaks
            return "no font";
        }
        page.size(10);                              // pixels for the font's UNITS
        put(page, "AO OA".getBytes(StandardCharsets.ISO_8859_1));
        int lines = page.text(128, 512, 1280);      // x, y and width in 64ths of a pixel
        StringBuilder out = new StringBuilder();
        for (int k = 0; k < lines; k++) {
            out.append("bytes ").append(page.line(k, 0)).append(" to ").append(page.line(k, 1))
                    .append(", ").append(page.line(k, 2)).append(" wide\n");
        }
        for (int y = 0; y < 19; y++) {
            long bits = page.row(y);                // bit x tells of pixel x
            for (int x = 0; x < 20; x++) {
                out.append((bits >>> x & 1) == 1 ? '#' : '.');
            }
            out.append('\n');
        }
        return out.toString();
    }

    /** The odd bytes go first, as a tape that is nearly full takes no more twenty. */
    static void put(GlyphPage page, byte[] bytes) {
        int odd = bytes.length % 20;
        page.end(0);
        if (odd > 0) {
            feedTwenty(page, bytes, 0);
            page.end(odd);
        }
        for (int at = odd; at < bytes.length; at += 20) {
            feedTwenty(page, bytes, at);
        }
    }

    static void feedTwenty(GlyphPage page, byte[] bytes, int at) {
        ByteBuffer b = ByteBuffer.wrap(Arrays.copyOfRange(bytes, at, at + 20));
        page.feed(b.getInt(), b.getInt(), b.getInt(), b.getInt(), b.getInt());
    }
}
