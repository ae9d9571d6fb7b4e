import java.io.IOException;
import java.lang.reflect.InvocationTargetException;
import java.lang.reflect.Method;
import java.lang.reflect.Modifier;
import java.nio.charset.StandardCharsets;
import java.nio.file.Files;
import java.nio.file.Path;
import java.util.HashMap;
import java.util.List;
import java.util.Map;
import java.util.NoSuchElementException;

/**
 * Long runs of calls of all sorts on a new object each, good and wrong arguments mixed; what is due comes from
 * a program in another language, written from the document alone. "none" is due where led throws.
 */
public final class RunsTest {
    private static final Map<String, Method> FACE = new HashMap<>();

    public static void main(String[] args) throws IOException, IllegalAccessException {
        for (Method m : OneTill.class.getDeclaredMethods()) {
            if (Modifier.isPublic(m.getModifiers())) {
                FACE.put(m.getName(), m);
            }
        }
        List<String> lines = Files.readAllLines(Path.of("src/test/runs/runs.txt"), StandardCharsets.US_ASCII);
        OneTill x = null;
        for (int i = 0; i < lines.size(); i++) {
            String line = lines.get(i);
            if (line.equals("new")) {
                x = new OneTill();
            } else {
                look(x, i + 1, line);
            }
        }
        Check.end();
    }

    private static void look(OneTill x, int number, String line) throws IllegalAccessException {
        String[] sides = line.split(" = ");
        String got = answer(x, sides[0].split(" "));
        Check.due("runs.txt, line " + number + ": " + line + ", not " + got + ": as due", got.equals(sides[1]), true);
    }

    private static String answer(OneTill x, String[] words) throws IllegalAccessException {
        Method m = FACE.get(words[0]);
        Object[] arguments = new Object[words.length - 1];
        for (int i = 0; i < arguments.length; i++) {
            boolean truth = m.getParameterTypes()[i] == boolean.class;
            arguments[i] = truth ? (Object) Boolean.valueOf(words[i + 1]) : (Object) Integer.valueOf(words[i + 1]);
        }
        try {
            Object answer = m.invoke(x, arguments);
            return answer instanceof Boolean ? (Boolean) answer ? "1" : "0" : String.valueOf(answer);
        } catch (InvocationTargetException e) {
            boolean due = e.getCause() instanceof NoSuchElementException && words[0].equals("led");
            return due ? "none" : String.valueOf(e.getCause());
        }
    }
}
