import java.io.IOException;
import java.lang.reflect.Method;
import java.lang.reflect.Modifier;
import java.nio.file.Files;
import java.nio.file.Path;
import java.util.ArrayList;
import java.util.List;
import java.util.Set;
import java.util.TreeSet;
import java.util.regex.Matcher;
import java.util.regex.Pattern;
import java.util.stream.Stream;

/** What README.md shows of the use of the class is what the class answers, and the tests that it names are those there are. */
public final class ReadmeTest {
    private static final Pattern CALL = Pattern.compile(
        "^puzzle\\.(\\w+)\\(([^)]*)\\);\\s*// (-?\\d+|true|false|nothing)(?:[:,] .*)?$");
    private static final Pattern SOURCE = Pattern.compile("`(src/[\\w/]+\\.java)`");

    private static int wrong = 0;

    private static void due(String what, Object got, Object want) {
        if (!got.equals(want)) {
            wrong++;
            System.out.println(what + ": " + got + ", due is " + want);
        }
    }

    public static void main(String[] args) throws IOException, ReflectiveOperationException {
        String readme = Files.readString(Path.of("README.md"));
        theExample(readme);
        theSources(readme);
        due("README.md names .ci/run", readme.contains("    .ci/run\n"), true);
        due(".ci/run can be run", Files.isExecutable(Path.of(".ci/run")), true);
        System.out.println(wrong == 0 ? "README.md is as due" : wrong + " faults in README.md");
        if (wrong != 0) {
            System.exit(1);
        }
    }

    private static void theExample(String readme) throws ReflectiveOperationException {
        String[] lines = readme.substring(readme.indexOf("```java\n"), readme.lastIndexOf("```")).split("\n");
        due("the first line makes an object", lines[1].startsWith("SlidingTileIda puzzle = new SlidingTileIda();"), true);
        SlidingTileIda puzzle = new SlidingTileIda();
        Set<String> shown = new TreeSet<>();
        for (int line = 2; line < lines.length; line++) {
            Matcher call = CALL.matcher(lines[line]);
            if (call.matches()) {
                shown.add(call.group(1));
                due(lines[line], answer(puzzle, call.group(1), call.group(2)), call.group(3));
            } else {
                due(lines[line], "not a call with its answer", "one");
            }
        }
        due("the calls of the example", shown, publicMethods());
    }

    private static String answer(SlidingTileIda puzzle, String name, String words) throws ReflectiveOperationException {
        List<Class<?>> types = new ArrayList<>();
        List<Object> values = new ArrayList<>();
        for (String word : words.isEmpty() ? new String[0] : words.split(", ")) {
            boolean truth = word.equals("true") || word.equals("false");
            types.add(truth ? boolean.class : int.class);
            values.add(truth ? (Object) Boolean.valueOf(word) : (Object) Integer.valueOf(word));
        }
        Method method = SlidingTileIda.class.getMethod(name, types.toArray(new Class<?>[0]));
        Object answer = method.invoke(puzzle, values.toArray());
        return answer == null ? "nothing" : answer.toString();
    }

    private static Set<String> publicMethods() {
        Set<String> names = new TreeSet<>();
        for (Method method : SlidingTileIda.class.getDeclaredMethods()) {
            if (Modifier.isPublic(method.getModifiers())) {
                names.add(method.getName());
            }
        }
        return names;
    }

    private static void theSources(String readme) throws IOException {
        Set<String> named = new TreeSet<>();
        Matcher source = SOURCE.matcher(readme);
        while (source.find()) {
            named.add(source.group(1));
        }
        Set<String> there = new TreeSet<>();
        try (Stream<Path> files = Files.walk(Path.of("src"))) {
            files.filter(Files::isRegularFile).forEach(file -> there.add(file.toString()));
        }
        due("the files that README.md names", named, there);
    }
}
