import java.io.IOException;
import java.lang.reflect.Constructor;
import java.lang.reflect.Field;
import java.lang.reflect.Method;
import java.lang.reflect.Modifier;
import java.nio.file.Files;
import java.nio.file.Path;
import java.util.Set;
import java.util.TreeSet;
import java.util.regex.Matcher;
import java.util.regex.Pattern;

/** What of ../shared/LANGUAGE.md can be looked up in the source and in the compiled class. */
public final class LanguageTest {
    private static final Check CHECK = new Check("LanguageTest");

    private static final String[] FACE = {
        "int type(int)", "int clear()", "int yard()", "int cell(int,int,int)", "int lays(int,int,int)",
        "int lifts(int,int)", "int raises(int,int,int)", "int day()", "int undo()", "int now(int)",
        "int stock(int)", "int drop(int,int,int)", "int feeds(int,int)", "int mend(int)", "int plan(int)",
        "int barrow(int,int)", "int odds(int,int,int,int)", "int saw(int,int)", "int forget()", "int from()",
        "int mark(int,int,int)", "int keep(int)", "int back(int)", "int count(int)", "long trace()"};

    private static final String[] FORBIDDEN = {
        "throw", "try", "catch", "synchronized", "assert", "import", "package", "protected", "native",
        "volatile", "transient", "->", "::", "null", "System", "Object", "Thread", "Exact\\b", "toString",
        "equals", "hashCode", "static\\s*\\{"};

    public static void main(String[] args) throws IOException {
        face();
        names();
        source(Files.readString(Path.of("src/main/java/SlabYard.java")));
        CHECK.end();
    }

    private static void must(String what, boolean holds) {
        CHECK.due(what, holds ? 1 : 0, 1);
    }

    private static String told(Method method) {
        StringBuilder text = new StringBuilder(method.getReturnType() + " " + method.getName() + "(");
        for (int i = 0; i < method.getParameterCount(); i++) {
            text.append(i == 0 ? "" : ",").append(method.getParameterTypes()[i]);
        }
        return text + ")";
    }

    private static void face() {
        Set<String> due = new TreeSet<>(Set.of(FACE));
        Set<String> found = new TreeSet<>();
        for (Method method : SlabYard.class.getDeclaredMethods()) {
            if (!Modifier.isPrivate(method.getModifiers())) {
                must("public: " + method, Modifier.isPublic(method.getModifiers()));
                must("of the object: " + method, !Modifier.isStatic(method.getModifiers()));
                found.add(told(method));
            }
        }
        must("the face " + found, found.equals(due));
        must("public and final", SlabYard.class.getModifiers() == (Modifier.PUBLIC | Modifier.FINAL));
        Constructor<?>[] constructors = SlabYard.class.getDeclaredConstructors();
        must("one constructor", constructors.length == 1 && constructors[0].getParameterCount() == 0);
        must("public constructor", Modifier.isPublic(constructors[0].getModifiers()));
        due(SlabYard.BAD, -1);
        due(SlabYard.STATE, -2);
        due(SlabYard.FULL, -3);
        due(SlabYard.NONE, -9);
        due(SlabYard.NO, -1000000);
        Set<String> constants = Set.of("BAD", "STATE", "FULL", "NONE", "NO");
        for (Field field : SlabYard.class.getDeclaredFields()) {
            boolean isPrivate = Modifier.isPrivate(field.getModifiers());
            must("private or a constant: " + field, isPrivate != constants.contains(field.getName()));
        }
        fields(SlabYard.class);
    }

    private static void due(int constant, int want) {
        CHECK.due("a constant", constant, want);
    }

    private static void fields(Class<?> type) {
        int ofObjects = 0;
        for (Field field : type.getDeclaredFields()) {
            if (Modifier.isStatic(field.getModifiers())) {
                must("final: " + field, Modifier.isFinal(field.getModifiers()));
            } else {
                ofObjects++;
            }
        }
        must("some twenty fields at most in " + type, ofObjects <= 20);
    }

    private static void names() {
        Set<String> ofFace = new TreeSet<>();
        for (String method : FACE) {
            ofFace.add(method.substring(method.indexOf(' ') + 1, method.indexOf('(')));
        }
        Class<?>[] inside = SlabYard.class.getDeclaredClasses();
        must("some twelve classes at most", inside.length <= 11);
        for (Class<?> type : inside) {
            must("static and not public: " + type,
                Modifier.isStatic(type.getModifiers()) && !Modifier.isPublic(type.getModifiers()));
            fields(type);
            for (Method method : type.getDeclaredMethods()) {
                must("no name of the face: " + method, !ofFace.contains(method.getName()));
                must("seven parameters at most: " + method, method.getParameterCount() <= 7);
            }
        }
    }

    private static void source(String text) {
        String bare = text.replaceAll("(?s)/\\*.*?\\*/|//[^\\n]*", "");
        for (String word : FORBIDDEN) {
            boolean isWord = word.matches("\\w+");
            Matcher found = Pattern.compile(isWord ? "\\b" + word + "\\b" : word).matcher(bare);
            must("no '" + word + "'", !found.find());
        }
        must("signs 1 to 127", text.chars().allMatch(c -> c > 0 && c < 128));
        objects(bare);
        lengths(bare);
    }

    /** Rows are made by constructors alone: a call makes nothing. */
    private static void objects(String bare) {
        String forField = "\\s+\\w+ = new \\w+(\\(\\)|\\[\\w+\\]);";
        for (String line : bare.split("\n")) {
            if (line.contains("new ")) {
                must("made for a field: " + line.trim(), line.matches(forField));
            }
        }
    }

    private static void lengths(String bare) {
        int opened = 0;
        int number = 0;
        for (String line : bare.split("\n")) {
            number++;
            if (line.matches("(    |        )[A-Za-z].*\\) \\{") && !line.trim().startsWith("if")) {
                opened = number;
            }
            if (line.matches("(    |        )\\}") && opened > 0) {
                must("sixty lines at most, ending at " + number, number - opened <= 60);
                opened = 0;
            }
        }
    }
}
