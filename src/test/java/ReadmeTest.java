import java.io.IOException;
import java.nio.file.Files;
import java.nio.file.Path;

/** The example of README.md: its lines stand here too, and answer what README.md says of them. */
public final class ReadmeTest {
    public static void main(String[] args) throws IOException {
        theExample();
        itsLinesAreThoseOfTheReadme();
        Due.end();
    }

    private static void theExample() {
        SquareCodes codes = new SquareCodes();
        for (char c : "HELLO WORLD".toCharArray()) {
            codes.type(c);
        }
        int mask = codes.write(2, -1);
        int top = codes.row(0);
        int corner = codes.module(20, 20);
        int ugliness = codes.ugliness();
        codes.flip(10, 10);
        int count = codes.read();
        int first = codes.text(0);
        int putRight = codes.told(2);
        int firstByte = codes.taken(0);
        int outside = codes.module(21, 0);

        Due.same("mask", mask, 6);
        Due.same("top", Integer.toBinaryString(top), "111111100001001111111");
        Due.same("corner", corner, 0);
        Due.same("ugliness", ugliness, 314);
        Due.same("count", count, 11);
        Due.same("first", first, (int) 'H');
        Due.same("putRight", putRight, 1);
        Due.same("firstByte", firstByte, 32);
        Due.same("outside", outside, SquareCodes.NONE);
    }

    private static void itsLinesAreThoseOfTheReadme() throws IOException {
        String here = Files.readString(Path.of("src/test/java/ReadmeTest.java"));
        String readme = Files.readString(Path.of("README.md"));
        String[] example = readme.substring(readme.indexOf("```java"), readme.lastIndexOf("```")).split("\n");
        for (int i = 1; i < example.length && !example[i].startsWith("```"); i++) {
            String line = example[i].replaceAll("//.*", "").strip();
            Due.holds("README.md's line " + line + " is tested", here.contains(line));
        }
        Due.holds("README.md has an example", example.length > 10);
    }
}
