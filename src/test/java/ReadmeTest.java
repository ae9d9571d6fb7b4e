import java.io.ByteArrayOutputStream;
import java.io.IOException;
import java.io.PrintStream;
import java.lang.reflect.Method;
import java.lang.reflect.Modifier;
import java.nio.charset.StandardCharsets;
import java.nio.file.Files;
import java.nio.file.Path;

/** The example that README.md shows answers as it says, and every call of the face is told there. */
public final class ReadmeTest {
    public static void main(String[] args) throws IOException {
        String readme = Files.readString(Path.of("README.md"), StandardCharsets.UTF_8);
        String example = Files.readString(Path.of("src/example/java/Example.java"), StandardCharsets.UTF_8);
        same("the example that is shown", block(readme, "java"), example);
        same("what the example prints", block(readme, "text"), printed());
        tellsEveryCall(readme);
        Check.due("README.md says how tests are run", readme.contains(".ci/run"), true);
        Check.end();
    }

    /** What stands between a fence of a sort and the next one. */
    private static String block(String readme, String sort) {
        String fence = "```" + sort + "\n";
        int at = readme.indexOf(fence);
        int from = at + fence.length();
        int to = readme.indexOf("```", from);
        return at < 0 || to < 0 ? "" : readme.substring(from, to);
    }

    private static String printed() {
        PrintStream before = System.out;
        ByteArrayOutputStream bytes = new ByteArrayOutputStream();
        System.setOut(new PrintStream(bytes, true, StandardCharsets.UTF_8));
        try {
            Example.main(new String[0]);
        } finally {
            System.setOut(before);
        }
        return bytes.toString(StandardCharsets.UTF_8).replace("\r\n", "\n");
    }

    private static void same(String what, String got, String want) {
        String[] gotLines = got.split("\n", -1);
        String[] wantLines = want.split("\n", -1);
        Check.due(what + ": lines", gotLines.length, wantLines.length);
        for (int i = 0; i < Math.min(gotLines.length, wantLines.length); i++) {
            Check.due(what + ": line " + i + " is " + gotLines[i], gotLines[i].equals(wantLines[i]), true);
        }
        Check.due(what + " is there", got.isEmpty(), false);
    }

    private static void tellsEveryCall(String readme) {
        for (Method m : OneTill.class.getDeclaredMethods()) {
            if (Modifier.isPublic(m.getModifiers())) {
                Check.due("README.md tells of " + m.getName(), readme.contains("`" + m.getName() + "("), true);
            }
        }
    }
}
