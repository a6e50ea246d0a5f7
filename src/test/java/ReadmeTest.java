import java.io.File;
import java.lang.reflect.Method;
import java.lang.reflect.Modifier;
import java.net.URL;
import java.net.URLClassLoader;
import java.nio.file.Files;
import java.nio.file.Path;
import java.util.ArrayList;
import java.util.List;
import java.util.Set;
import java.util.TreeSet;
import java.util.regex.Matcher;
import java.util.regex.Pattern;

/** README.md says what stands: its examples, its calls with their promises, its tests. */
public final class ReadmeTest {
    private static final Due DUE = new Due("ReadmeTest");

    public static void main(String[] args) throws Exception {
        String page = Files.readString(Path.of("README.md"));
        examples(page);
        calls(page);
        tests(page);
        bounds(page);
        DUE.close();
    }

    /** A line "call; // answer" of a Java block is run, and must answer so. */
    private static void examples(String page) throws Exception {
        StringBuilder body = new StringBuilder();
        int answers = 0;
        Matcher block = Pattern.compile("(?s)```java\n(.*?)```").matcher(page);
        while (block.find()) {
            for (String line : block.group(1).split("\n")) {
                Matcher call = Pattern.compile("(x\\.\\w+\\(.*\\)); // (-?\\d+).*").matcher(line);
                if (call.matches()) {
                    answers++;
                    body.append("told.add(new long[] {").append(call.group(1)).append(", ").append(call.group(2)).append("});\n");
                } else {
                    body.append(line).append('\n');
                }
            }
        }
        DUE.is("examples with an answer", answers > 20 ? 1 : 0, 1);
        List<long[]> told = run(body.toString());
        for (int i = 0; i < told.size(); i++) {
            DUE.is("example " + i + " of README.md", told.get(i)[0], told.get(i)[1]);
        }
        DUE.is("examples that were run", told.size(), answers);
    }

    private static List<long[]> run(String body) throws Exception {
        Path folder = Files.createTempDirectory("readme");
        Path file = folder.resolve("Example.java");
        Files.writeString(file, "public final class Example {\npublic static void run(java.util.List<long[]> told) {\n" + body + "}\n}\n");
        String seen = System.getProperty("java.class.path");
        int code = new ProcessBuilder("javac", "-cp", seen, "-d", folder.toString(), file.toString()).inheritIO().start().waitFor();
        DUE.is("the examples compile", code, 0);
        List<long[]> told = new ArrayList<>();
        if (code == 0) {
            try (URLClassLoader loader = new URLClassLoader(new URL[] {folder.toUri().toURL()})) {
                loader.loadClass("Example").getMethod("run", List.class).invoke(null, told);
            }
        }
        for (File left : folder.toFile().listFiles()) {
            left.delete();
        }
        folder.toFile().delete();
        return told;
    }

    /** The rows of the table of calls name each promise's call, in the document's order. */
    private static void calls(String page) throws Exception {
        List<String> heads = new ArrayList<>();
        Matcher head = Pattern.compile("(?m)^## Promise (\\d+): (\\w+)").matcher(Files.readString(Path.of("../shared/DOC.md")));
        while (head.find()) {
            heads.add(head.group(2));
        }
        Set<String> named = new TreeSet<>();
        Matcher row = Pattern.compile("(?m)^\\| ((?:`\\w+` ?)+)\\| [^|]+ \\| (\\d+)(?: to |, )(\\d+) \\|$").matcher(page);
        while (row.find()) {
            String[] names = row.group(1).replace("`", "").trim().split(" ");
            int from = Integer.parseInt(row.group(2));
            DUE.is("promises of " + row.group(1), Integer.parseInt(row.group(3)) - from + 1, names.length);
            for (int i = 0; i < names.length && from + i <= heads.size(); i++) {
                DUE.is(names[i] + " is promise " + (from + i), heads.get(from + i - 1).equals(names[i]) ? 1 : 0, 1);
                named.add(names[i]);
            }
        }
        for (Method m : QuarrelBridge.class.getDeclaredMethods()) {
            if (Modifier.isPublic(m.getModifiers())) {
                DUE.is("the table names " + m.getName(), named.contains(m.getName()) ? 1 : 0, 1);
            }
        }
    }

    private static void tests(String page) {
        Set<String> there = new TreeSet<>();
        for (String name : new File("src/test/java").list()) {
            if (name.endsWith("Test.java")) {
                there.add(name.replace(".java", ""));
            }
        }
        Set<String> named = new TreeSet<>();
        Matcher row = Pattern.compile("(?m)^\\| `(\\w+Test)` \\|").matcher(page);
        while (row.find()) {
            named.add(row.group(1));
        }
        DUE.is("tests there " + there + ", tests named " + named, there.equals(named) ? 1 : 0, 1);
        DUE.is("the page names .ci/run", page.contains("```sh\n.ci/run\n```") ? 1 : 0, 1);
        DUE.is(".ci/run can be run", new File(".ci/run").canExecute() ? 1 : 0, 1);
    }

    /** Each "word low..high" of the text's form is taken at both ends, and refused beyond them. */
    private static void bounds(String page) {
        Matcher form = Pattern.compile("(?s)```text\n(.*?)```").matcher(page);
        DUE.is("the text's form", form.find() ? 1 : 0, 1);
        String lines = form.group(1).replace("|takes", "");
        Matcher bound = Pattern.compile("(\\d+)\\.\\.(\\d+)").matcher(lines);
        int many = 0;
        while (bound.find()) {
            many++;
            int low = Integer.parseInt(bound.group(1));
            int high = Integer.parseInt(bound.group(2));
            String ahead = least(lines.substring(0, bound.start()));
            String behind = least(lines.substring(bound.end()));
            DUE.is(ahead + low, told(ahead + low + behind), 3);
            DUE.is(ahead + high, told(ahead + high + behind), 3);
            DUE.is(ahead + (high + 1), told(ahead + (high + 1) + behind), -4);
            if (low > 0) {
                DUE.is(ahead + (low - 1), told(ahead + (low - 1) + behind), -4);
            }
        }
        DUE.is("numbers of the three lines", many, 14);
    }

    private static String least(String form) {
        return form.replaceAll("(\\d+)\\.\\.\\d+", "$1");
    }

    private static int told(String text) {
        QuarrelBridge x = new QuarrelBridge();
        Texts.feed(x, text);
        return x.bridge();
    }
}
