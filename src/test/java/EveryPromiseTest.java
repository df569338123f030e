import java.io.IOException;
import java.nio.charset.StandardCharsets;
import java.nio.file.DirectoryStream;
import java.nio.file.Files;
import java.nio.file.Path;
import java.util.Set;
import java.util.TreeSet;
import java.util.regex.Matcher;
import java.util.regex.Pattern;

/** That each of the 36 promises is named by a test of its edges. */
public final class EveryPromiseTest {
    private static final Path TESTS = Path.of("src/test/java");
    private static final Pattern NAMED = Pattern.compile("Desk\\.promise\\((\\d+), \"");

    public static void main(String[] args) throws IOException {
        Set<Integer> named = new TreeSet<>();
        try (DirectoryStream<Path> tests = Files.newDirectoryStream(TESTS, "*EdgesTest.java")) {
            for (Path test : tests) {
                Matcher m = NAMED.matcher(Files.readString(test, StandardCharsets.UTF_8));
                while (m.find()) {
                    named.add(Integer.parseInt(m.group(1)));
                }
            }
        }
        for (int promise = 1; promise <= 36; promise++) {
            Desk.due("promise " + promise + " is named", named.contains(promise), true);
        }
        Desk.due("promises named", named.size(), 36);
        Desk.finish("EveryPromiseTest");
    }
}
