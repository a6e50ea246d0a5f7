import java.nio.file.Files;
import java.nio.file.Path;
import java.util.List;
import java.util.regex.Matcher;
import java.util.regex.Pattern;

/** Rules of ../shared/LANGUAGE.md that can be seen in the text of the class. */
public final class LanguageTest {
    private static final Due DUE = new Due("LanguageTest");

    public static void main(String[] args) throws Exception {
        String raw = Files.readString(Path.of("src/main/java/QuarrelBridge.java"));
        String code = raw.replaceAll("(?s)/\\*.*?\\*/", "").replaceAll("//[^\n]*", "").replaceAll("\"[^\"\n]*\"", "\"\"");
        forbidden(code);
        statics(code);
        methods(code);
        DUE.is("signs above 127", raw.chars().filter(c -> c > 127).count(), 0);
        DUE.is("lines over 120", raw.lines().filter(l -> l.length() > 120).count(), 0);
        DUE.close();
    }

    private static void forbidden(String code) {
        List<String> patterns = List.of("\\bthrow\\b", "\\bthrows\\b", "\\btry\\b", "\\bcatch\\b", "\\bsynchronized\\b",
            "\\bassert\\b", "->", "::", "\\bpackage\\b", "\\bimport\\b", "static\\s*\\{", "\\bprotected\\b", "\\bequals\\(",
            "\\bhashCode\\b", "\\btoString\\b", "Exact\\(", "\\bvalues\\(", "\\bdouble\\b", "\\bfloat\\b", "\\bvar\\b",
            "while\\s*\\(true", "for\\s*\\(;;", "\\b(Random|Thread|Object)\\b", "\\[\\]\\[\\]\\[\\]");
        for (String one : patterns) {
            DUE.is("uses of " + one, Pattern.compile(one).matcher(code).results().count(), 0);
        }
        Matcher library = Pattern.compile("\\b(Math|Integer|Long|System|Arrays)\\.(\\w+)").matcher(code);
        List<String> allowed = List.of("Math.max", "Math.min", "Math.abs", "Integer.bitCount", "System.arraycopy");
        while (library.find()) {
            DUE.is("library " + library.group(), allowed.contains(library.group()) ? 1 : 0, 1);
        }
    }

    private static void statics(String code) {
        Matcher field = Pattern.compile("(?m)^ *(public |private )?static (?!.*[({])[^;=]*").matcher(code);
        while (field.find()) {
            DUE.is("a constant: " + field.group().trim(), field.group().contains("static final int") ? 1 : 0, 1);
        }
        long classes = Pattern.compile("\\bclass \\w+").matcher(code).results().count();
        DUE.is("some twelve classes", classes <= 12 ? 1 : 0, 1);
        Matcher inside = Pattern.compile("(?m)^    .*\\bclass \\w+ \\{").matcher(code);
        while (inside.find()) {
            DUE.is(inside.group(), inside.group().startsWith("    private static final class") ? 1 : 0, 1);
        }
    }

    private static void methods(String code) {
        Matcher head = Pattern.compile("(?m)^( +)((?:public |private |static )*)(?!return|else|new)[\\w\\[\\]]+ (\\w+)\\(([^)]*)\\) \\{$")
                .matcher(code);
        StringBuilder seen = new StringBuilder(" ");
        int many = 0;
        while (head.find()) {
            many++;
            String name = head.group(3);
            int end = code.indexOf("\n" + head.group(1) + "}", head.start());
            long lines = code.substring(head.start(), end).lines().count() + 1;
            DUE.is(name + " has some sixty lines at most", lines <= 60 ? 1 : 0, 1);
            DUE.is(name + " has seven parameters at most", head.group(4).split(",").length <= 7 ? 1 : 0, 1);
            DUE.is("methods named " + name + " ahead", seen.indexOf(" " + name + " ") >= 0 ? 1 : 0, 0);
            seen.append(name).append(' ');
        }
        DUE.is("methods were found", many > 150 ? 1 : 0, 1);
    }
}
