import java.io.IOException;
import java.lang.reflect.Constructor;
import java.lang.reflect.Field;
import java.lang.reflect.Method;
import java.lang.reflect.Modifier;
import java.nio.file.Files;
import java.nio.file.Path;
import java.util.Map;
import java.util.Set;
import java.util.TreeMap;
import java.util.TreeSet;
import java.util.regex.Matcher;
import java.util.regex.Pattern;

/** The face of the document, and the rules of LANGUAGE.md that can be seen from the text of the program. */
public final class LanguageTest {
    private static final String[] FACE = {"int feed(int,int,int,int,int)", "boolean end(int)", "int load()", "int place()",
        "int size(int)", "int height(int,int)", "boolean reset()", "int argument(long)", "int run(int,int)", "long result()",
        "int error()", "int steps()", "long field(int)", "int element(int,int)", "int arrayLength(int)", "int strays()"};

    private static final String[] FORBIDDEN = {"\\bthrow\\b", "\\btry\\b", "\\bcatch\\b", "\\bsynchronized\\b", "\\bassert\\b",
        "->", "::", "\\bdouble\\b", "\\bfloat\\b", "\\bThread\\b", "\\bRandom\\b", "\\bSystem\\.(?!arraycopy)", "\\bException\\b",
        "\"\\s*\\+", "\\+\\s*\"", "\\bimport (?!java\\.util\\.Arrays;)", "\\bpackage\\b", "\\bhashCode\\b", "Exact\\b",
        "\\bstatic (?!final\\b|class\\b)[\\w\\[\\]]+ \\w+( =|;)", "\\bprotected\\b", "\\bnative\\b", "\\bvolatile\\b"};

    public static void main(String[] args) throws IOException {
        theFaceIsTheDocuments();
        nestedClassesArePrivate();
        nothingForbiddenIsWritten();
        methodsAreShort();
        Due.close();
    }

    private static String signature(Method method) {
        StringBuilder text = new StringBuilder(method.getReturnType().getName() + " " + method.getName() + "(");
        for (Class<?> type : method.getParameterTypes()) {
            text.append(text.toString().endsWith("(") ? "" : ",").append(type.getName());
        }
        return text + ")";
    }

    private static void theFaceIsTheDocuments() {
        Set<String> found = new TreeSet<>();
        for (Method method : CodeMachine.class.getDeclaredMethods()) {
            if (Modifier.isPublic(method.getModifiers())) {
                found.add(signature(method));
            } else {
                Due.is(method + " is private", true, Modifier.isPrivate(method.getModifiers()) || method.isSynthetic());
            }
        }
        Due.is("the face", true, found.equals(new TreeSet<>(Set.of(FACE))));
        Due.is("the class is final", true, Modifier.isFinal(CodeMachine.class.getModifiers()));
        Constructor<?>[] constructors = CodeMachine.class.getDeclaredConstructors();
        Due.is("constructors", 1, constructors.length);
        Due.is("its parameters", 0, constructors[0].getParameterCount());
        for (Field field : CodeMachine.class.getDeclaredFields()) {
            Due.is(field + " is private", true, Modifier.isPrivate(field.getModifiers()));
        }
    }

    private static void nestedClassesArePrivate() {
        Set<String> publicNames = new TreeSet<>();
        for (String line : FACE) {
            publicNames.add(line.replaceAll(".* |\\(.*", ""));
        }
        Class<?>[] classes = CodeMachine.class.getDeclaredClasses();
        Due.is("at most twelve classes", true, classes.length < 12);
        for (Class<?> nested : classes) {
            Due.is(nested + " is private and static", true,
                Modifier.isPrivate(nested.getModifiers()) && Modifier.isStatic(nested.getModifiers()));
            int own = 0;
            for (Field field : nested.getDeclaredFields()) {
                own += Modifier.isStatic(field.getModifiers()) ? 0 : 1;
                Due.is(field + " is no static state", true,
                    !Modifier.isStatic(field.getModifiers()) || Modifier.isFinal(field.getModifiers()));
            }
            Due.is(nested + " has few fields", true, own <= 20);
            for (Method method : nested.getDeclaredMethods()) {
                Due.is(method + " bears a public name", false, publicNames.contains(method.getName()));
                Due.is(method + " has few parameters", true, method.getParameterCount() <= 7);
            }
        }
    }

    private static String source() throws IOException {
        String text = Files.readString(Path.of("src/main/java/CodeMachine.java"));
        return text.replaceAll("(?s)/\\*.*?\\*/", "").replaceAll("//[^\n]*", "");
    }

    private static void nothingForbiddenIsWritten() throws IOException {
        String text = source();
        for (String pattern : FORBIDDEN) {
            Matcher matcher = Pattern.compile(pattern).matcher(text);
            if (matcher.find()) {
                System.out.println("found: " + matcher.group());
                Due.is("nothing like " + pattern, true, false);
            }
        }
        for (char sign : text.toCharArray()) {
            if (sign > 126) {
                Due.is("plain signs", 126, sign);
            }
        }
    }

    /** A method begins with a line that ends with ") {" behind 4 or 8 blanks, and ends with a brace there. */
    private static void methodsAreShort() throws IOException {
        Map<String, Integer> lengths = new TreeMap<>();
        String begun = null;
        int lines = 0;
        for (String line : Files.readString(Path.of("src/main/java/CodeMachine.java")).split("\n")) {
            lines++;
            if (line.matches("(    |        )[A-Za-z].*\\) \\{")) {
                begun = line;
                lines = 0;
            } else if (begun != null && line.matches("(    |        )\\}")) {
                lengths.put(begun.trim(), lines);
                begun = null;
            }
            Due.is("the length of a line", true, line.length() <= 125);
        }
        Due.is("methods were found", true, lengths.size() > 100);
        for (Map.Entry<String, Integer> method : lengths.entrySet()) {
            Due.is(method.getKey() + " is short", true, method.getValue() <= 60);
        }
    }
}
