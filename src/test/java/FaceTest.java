import java.io.IOException;
import java.lang.reflect.Constructor;
import java.lang.reflect.Field;
import java.lang.reflect.Method;
import java.lang.reflect.Modifier;
import java.nio.file.Files;
import java.nio.file.Path;
import java.util.Set;
import java.util.TreeSet;

/** The public face is the document's and nothing more, and the source keeps to what of LANGUAGE.md can be looked up. */
public final class FaceTest {
    private static final Set<String> FACE = Set.of(
        "public static final int BAD",
        "public static final int NONE",
        "public SlidingTileIda()",
        "public boolean SlidingTileIda.exchange(boolean,int,int)",
        "public int SlidingTileIda.move(int)",
        "public int SlidingTileIda.cell(boolean,int)",
        "public boolean SlidingTileIda.solvable()",
        "public int SlidingTileIda.distance()",
        "public int SlidingTileIda.bestSolutions()",
        "public int SlidingTileIda.hint(int)",
        "public int SlidingTileIda.goodMoves()",
        "public int SlidingTileIda.step()",
        "public void SlidingTileIda.swapBoards()");

    private static final String[] FORBIDDEN_WORDS = {
        "import", "package", "throw", "throws", "try", "catch", "finally", "synchronized", "assert", "instanceof",
        "null", "float", "double", "String", "Object", "Math", "Integer", "System", "Arrays",
        "interface", "enum", "record", "protected",
    };

    private static int wrong = 0;

    private static void wrong(String what) {
        wrong++;
        System.out.println(what);
    }

    public static void main(String[] args) throws IOException {
        theFace();
        privateNames();
        fieldTypes();
        theWords();
        System.out.println(wrong == 0 ? "the face is as due" : wrong + " faults in the face");
        if (wrong != 0) {
            System.exit(1);
        }
    }

    private static void theFace() {
        Class<?> type = SlidingTileIda.class;
        if (type.getModifiers() != (Modifier.PUBLIC | Modifier.FINAL)) {
            wrong("the class is not public final alone");
        }
        Set<String> seen = new TreeSet<>();
        for (Field field : type.getDeclaredFields()) {
            if (!Modifier.isPrivate(field.getModifiers())) {
                seen.add(field.toGenericString().replace("SlidingTileIda.", ""));
            }
        }
        for (Constructor<?> constructor : type.getDeclaredConstructors()) {
            seen.add(constructor.toString());
        }
        for (Method method : type.getDeclaredMethods()) {
            if (!Modifier.isPrivate(method.getModifiers())) {
                seen.add(method.toString());
            }
        }
        if (!seen.equals(FACE)) {
            wrong("the face is " + seen + ", due is " + new TreeSet<>(FACE));
        }
        if (type.getDeclaredClasses().length != 0) {
            wrong("there is a nested class");
        }
    }

    private static void privateNames() {
        Set<String> open = new TreeSet<>();
        for (Method method : SlidingTileIda.class.getMethods()) {
            open.add(method.getName());
        }
        for (Method method : SlidingTileIda.class.getDeclaredMethods()) {
            if (Modifier.isPrivate(method.getModifiers()) && open.contains(method.getName())) {
                wrong("a private method bears the public name " + method.getName());
            }
            if (method.getParameterCount() > 7) {
                wrong("more than seven parameters: " + method.getName());
            }
        }
    }

    private static void fieldTypes() {
        for (Field field : SlidingTileIda.class.getDeclaredFields()) {
            Class<?> type = field.getType();
            Class<?> element = type.isArray() ? type.getComponentType() : type;
            boolean number = element.isPrimitive() && element != float.class && element != double.class;
            if (!number) {
                wrong("a field of a type outside the rules: " + field);
            }
            boolean isStatic = Modifier.isStatic(field.getModifiers());
            if (isStatic && (!Modifier.isFinal(field.getModifiers()) || type != int.class && type != long.class)) {
                wrong("a static field that is no constant of int or long: " + field);
            }
        }
    }

    private static void theWords() throws IOException {
        String source = Files.readString(Path.of("src/main/java/SlidingTileIda.java"));
        String code = source.replaceAll("(?s)/\\*.*?\\*/", " ").replaceAll("//[^\n]*", " ");
        for (String word : FORBIDDEN_WORDS) {
            if (code.matches("(?s).*\\b" + word + "\\b.*")) {
                wrong("the source has the word " + word);
            }
        }
        if (code.contains("->") || code.contains("::")) {
            wrong("the source has a lambda or a method reference");
        }
    }
}
