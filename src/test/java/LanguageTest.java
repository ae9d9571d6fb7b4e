import java.lang.reflect.Constructor;
import java.lang.reflect.Field;
import java.lang.reflect.Method;
import java.lang.reflect.Modifier;
import java.nio.file.Files;
import java.nio.file.Path;
import java.util.ArrayList;
import java.util.Arrays;
import java.util.HashSet;
import java.util.List;
import java.util.Set;
import java.util.TreeSet;
import java.util.regex.Matcher;
import java.util.regex.Pattern;

/** The public face is the document's and no more; the source has none of what LANGUAGE.md forbids by a word. */
public final class LanguageTest {
    private static final String[] FACE = {
        "int feed(int,int,int,int,int)", "int book(int)", "int fault()", "int where()", "int can(int)",
        "long orders(int)", "int size(int)", "int order(int,int)", "int stands(int)", "int ends(int)", "int firsts(int)",
        "int ahead(int,int,int)", "int each(int)", "int bad(int)", "int core(int)", "int mends()", "int enough()",
        "int could(int,int)", "int couldTell(int,int,boolean)", "boolean seed(int)", "int make(int,int)",
        "int breaks(int,int,int)", "int answer(int,int)", "boolean lose(int)", "int opens(int)", "int late(int)",
        "int mark()", "boolean back(int)", "int call(int,int)", "int led(int)", "int told(int)", "int trouble()"};

    private static final String[] FORBIDDEN = {"->", "::", "try", "catch", "finally", "synchronized", "assert", "var",
        "instanceof", "static {", "HashMap", "Random", "System.nanoTime", "System.out", "Thread", "Exact(", "@", "record"};

    public static void main(String[] args) throws Exception {
        face();
        names();
        source();
        Check.end();
    }

    private static void face() throws Exception {
        TreeSet<String> got = new TreeSet<>();
        for (Method m : OneTill.class.getDeclaredMethods()) {
            int bits = m.getModifiers();
            Check.due(m + " is public or private", Modifier.isPublic(bits) || Modifier.isPrivate(bits), true);
            if (Modifier.isPublic(bits)) {
                List<String> types = new ArrayList<>();
                for (Class<?> c : m.getParameterTypes()) {
                    types.add(c.getName());
                }
                got.add(m.getReturnType().getName() + " " + m.getName() + "(" + String.join(",", types) + ")");
                Check.due(m + " is static", Modifier.isStatic(bits), false);
            }
        }
        Check.due("face is " + got, got.equals(new TreeSet<>(Arrays.asList(FACE))), true);
        for (Field f : OneTill.class.getDeclaredFields()) {
            boolean isNone = f.getName().equals("NONE");
            Check.due(f + " is private", Modifier.isPrivate(f.getModifiers()), !isNone);
        }
        Check.due("NONE", OneTill.NONE, -1);
        Constructor<?>[] made = OneTill.class.getDeclaredConstructors();
        Check.due("constructors", made.length, 1);
        Check.due("its parameters", made[0].getParameterCount(), 0);
        Check.due("final", Modifier.isFinal(OneTill.class.getModifiers()), true);
        for (Class<?> c : OneTill.class.getDeclaredClasses()) {
            Check.due(c + " is static", Modifier.isStatic(c.getModifiers()), true);
            Check.due(c + " is public", Modifier.isPublic(c.getModifiers()), false);
        }
        Check.due("classes at most", OneTill.class.getDeclaredClasses().length <= 12, true);
    }

    /** Rule 1: no other method bears the name of a public one; rule 5: static fields are final. */
    private static void names() {
        Set<String> face = new HashSet<>();
        for (String f : FACE) {
            face.add(f.substring(f.indexOf(' ') + 1, f.indexOf('(')));
        }
        for (Class<?> c : OneTill.class.getDeclaredClasses()) {
            for (Method m : c.getDeclaredMethods()) {
                Check.due(m + " bears a name of the face", face.contains(m.getName()), false);
                Check.due(m + " parameters", m.getParameterCount() <= 7, true);
            }
            for (Field f : c.getDeclaredFields()) {
                boolean isStatic = Modifier.isStatic(f.getModifiers());
                Check.due(f + " final", !isStatic || Modifier.isFinal(f.getModifiers()), true);
            }
        }
    }

    private static void source() throws Exception {
        String source = Files.readString(Path.of("src/main/java/OneTill.java"));
        String code = source.replaceAll("(?s)/\\*.*?\\*/", "").replaceAll("//[^\n]*", "");
        for (String word : FORBIDDEN) {
            boolean letters = Character.isLetter(word.charAt(0)) && Character.isLetter(word.charAt(word.length() - 1));
            Pattern p = Pattern.compile(letters ? "\\b" + Pattern.quote(word) + "\\b" : Pattern.quote(word));
            Check.due("source has " + word, p.matcher(code).find(), false);
        }
        TreeSet<String> imports = new TreeSet<>();
        Matcher m = Pattern.compile("import ([^;]+);").matcher(code);
        while (m.find()) {
            imports.add(m.group(1));
        }
        Check.due("imports " + imports, imports.equals(Set.of("java.util.Arrays", "java.util.NoSuchElementException")), true);
        Check.due("throws", code.split("throw new", -1).length - 1, 1);
    }
}
