import java.io.IOException;
import java.lang.reflect.Constructor;
import java.lang.reflect.Field;
import java.lang.reflect.Method;
import java.lang.reflect.Modifier;
import java.nio.file.Files;
import java.nio.file.Path;
import java.util.List;
import java.util.Set;
import java.util.TreeSet;
import java.util.regex.Matcher;
import java.util.regex.Pattern;
import java.util.stream.Collectors;

/** The public face, and those rules of LANGUAGE.md that can be seen from the class and its source's text. */
final class FaceTest {
    private static final Path SOURCE = Path.of("src/main/java/InsultStatues.java");
    private static final Set<String> FACE = Set.of(
        "int type(int)", "int clear()", "int town()", "int statue(int,int)", "int one(int,int)", "int now(int)",
        "int comes(int)", "int goes(int)", "int claims(int,int)", "int pulls(int,int)", "int undo()",
        "int gather(int)", "int bare(int,int)", "int scale(int,int)", "int offends(int,int)",
        "int odds(int,int,int)", "int sees(int,int)", "int forget()", "int who()", "int show()",
        "int rate(int,int)", "int keep(int)", "int back(int)", "int count(int)", "long trace()");
    private static final List<String> FORBIDDEN = List.of("throw", "throws", "try", "catch", "synchronized", "assert",
        "import", "package", "double", "float", "System", "Thread", "Random", "equals", "hashCode", "toString",
        "protected", "native", "volatile", "transient", "default ->");

    public static void main(String[] args) throws IOException {
        constants();
        methods();
        fields();
        classesInside();
        source();
        Expect.end("FaceTest");
    }

    private static void constants() {
        Expect.due("BAD", -1, InsultStatues.BAD);
        Expect.due("STATE", -2, InsultStatues.STATE);
        Expect.due("FULL", -3, InsultStatues.FULL);
        Expect.due("NONE", -9, InsultStatues.NONE);
        Expect.due("NO", -1000000, InsultStatues.NO);
    }

    private static void methods() {
        Set<String> found = new TreeSet<>();
        Set<String> names = faceNames();
        for (Method m : InsultStatues.class.getDeclaredMethods()) {
            if (Modifier.isPrivate(m.getModifiers())) {
                Expect.yes("private " + m.getName() + " bears a name of its own", !names.contains(m.getName()));
            } else {
                found.add(signature(m));
                Expect.yes(m + " is public and not static", Modifier.PUBLIC == (m.getModifiers()
                    & (Modifier.PUBLIC | Modifier.STATIC)));
            }
        }
        Expect.yes("the methods are those of the face: " + found, found.equals(FACE));
        Constructor<?>[] made = InsultStatues.class.getDeclaredConstructors();
        Expect.due("constructors", 1, made.length);
        Expect.yes("it is public", Modifier.isPublic(made[0].getModifiers()));
        Expect.due("its parameters", 0, made[0].getParameterCount());
        Expect.yes("the class is final", Modifier.isFinal(InsultStatues.class.getModifiers()));
        Expect.yes("the class is public", Modifier.isPublic(InsultStatues.class.getModifiers()));
    }

    private static Set<String> faceNames() {
        return FACE.stream().map(f -> f.replaceAll("^\\w+ |\\(.*", "")).collect(Collectors.toSet());
    }

    private static String signature(Method m) {
        StringBuilder b = new StringBuilder(m.getReturnType().getName() + " " + m.getName() + "(");
        for (int i = 0; i < m.getParameterCount(); i++) {
            b.append(i > 0 ? "," : "").append(m.getParameterTypes()[i].getName());
        }
        return b.append(")").toString();
    }

    private static void fields() {
        Set<String> open = new TreeSet<>();
        for (Field f : InsultStatues.class.getDeclaredFields()) {
            if (!Modifier.isPrivate(f.getModifiers())) {
                open.add(f.getName());
            }
        }
        Expect.yes("open fields are the constants: " + open, open.equals(Set.of("BAD", "STATE", "FULL", "NONE", "NO")));
        checkFields(InsultStatues.class);
    }

    private static void checkFields(Class<?> type) {
        int own = 0;
        for (Field f : type.getDeclaredFields()) {
            if (Modifier.isStatic(f.getModifiers())) {
                Expect.yes(type.getName() + "." + f.getName() + " is final", Modifier.isFinal(f.getModifiers()));
            } else {
                own++;
            }
        }
        Expect.yes(type.getName() + " has some twenty fields at most: " + own, own <= 20);
    }

    private static void classesInside() {
        Class<?>[] inside = InsultStatues.class.getDeclaredClasses();
        Expect.yes("some twelve classes at most", inside.length <= 11);
        for (Class<?> c : inside) {
            Expect.yes(c.getName() + " is static", Modifier.isStatic(c.getModifiers()));
            Expect.yes(c.getName() + " is not open", !Modifier.isPublic(c.getModifiers()));
            checkFields(c);
            for (Method m : c.getDeclaredMethods()) {
                Expect.yes(m + " takes seven at most", m.getParameterCount() <= 7);
                Expect.yes(m + " bears a name of its own", !faceNames().contains(m.getName()));
            }
        }
    }

    private static void source() throws IOException {
        String code = Files.readString(SOURCE).replaceAll("(?s)/\\*.*?\\*/", "").replaceAll("//[^\n]*", "");
        for (String word : FORBIDDEN) {
            Matcher m = Pattern.compile("(?<![\\w])" + Pattern.quote(word) + "(?![\\w])").matcher(code);
            Expect.yes("no '" + word + "' in the program", !m.find());
        }
        Expect.yes("no lambda, no method reference", !code.contains("->") && !code.contains("::"));
        for (char sign : code.toCharArray()) {
            Expect.yes("sign " + (int) sign, sign < 128);
        }
        methodsStayShort(code);
    }

    private static void methodsStayShort(String code) {
        int begun = -1;
        String[] lines = code.split("\n");
        for (int i = 0; i < lines.length; i++) {
            if (lines[i].matches("( {4}){1,2}[^ ].*\\) \\{")) {
                begun = i;
            }
            if (lines[i].matches("( {4}){1,2}\\}") && begun >= 0) {
                Expect.yes("lines from " + begun + " to " + i + " are a short method", i - begun <= 60);
                begun = -1;
            }
        }
    }
}
