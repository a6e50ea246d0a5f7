import java.lang.reflect.Field;
import java.lang.reflect.Modifier;
import java.nio.file.Files;
import java.nio.file.Path;
import java.util.LinkedHashMap;
import java.util.List;
import java.util.Map;
import java.util.regex.Matcher;
import java.util.regex.Pattern;

/** Rules of ../shared/LANGUAGE.md that can be seen in the text of the class. */
public final class LanguageTest {
    private static final Due DUE = new Due("LanguageTest");

    public static void main(String[] args) throws Exception {
        String raw = Files.readString(Path.of("src/main/java/QuarrelBridge.java"));
        String code = raw.replaceAll("(?s)/\\*.*?\\*/", "").replaceAll("//[^\n]*", "").replaceAll("\"[^\"\n]*\"", "\"\"");
        forbidden(code);
        statics(code);
        methods(code);
        fields();
        depth(code);
        DUE.is("signs above 127", raw.chars().filter(c -> c > 127).count(), 0);
        DUE.is("lines over 120", raw.lines().filter(l -> l.length() > 120).count(), 0);
        DUE.close();
    }

    private static void forbidden(String code) {
        List<String> patterns = List.of("\\bthrow\\b", "\\bthrows\\b", "\\btry\\b", "\\bcatch\\b", "\\bsynchronized\\b",
            "\\bassert\\b", "->", "::", "\\bpackage\\b", "\\bimport\\b", "static\\s*\\{", "\\bprotected\\b", "\\bequals\\(",
            "\\bhashCode\\b", "\\btoString\\b", "Exact\\(", "\\bvalues\\(", "\\bdouble\\b", "\\bfloat\\b", "\\bvar\\b",
            "while\\s*\\(true", "for\\s*\\(;;", "\\b(Random|Thread|Object)\\b", "\\[\\]\\[\\]\\[\\]");
        for (String one : patterns) {
            DUE.is("uses of " + one, Pattern.compile(one).matcher(code).results().count(), 0);
        }
        Matcher library = Pattern.compile("\\b(Math|Integer|Long|System|Arrays)\\.(\\w+)").matcher(code);
        List<String> allowed = List.of("Math.max", "Math.min", "Math.abs", "Integer.bitCount", "System.arraycopy");
        while (library.find()) {
            DUE.is("library " + library.group(), allowed.contains(library.group()) ? 1 : 0, 1);
        }
    }

    private static void statics(String code) {
        Matcher field = Pattern.compile("(?m)^ *(public |private )?static (?!.*[({])[^;=]*").matcher(code);
        while (field.find()) {
            DUE.is("a constant: " + field.group().trim(), field.group().contains("static final int") ? 1 : 0, 1);
        }
        long classes = Pattern.compile("\\bclass \\w+").matcher(code).results().count();
        DUE.is("some twelve classes", classes <= 12 ? 1 : 0, 1);
        Matcher inside = Pattern.compile("(?m)^    .*\\bclass \\w+ \\{").matcher(code);
        while (inside.find()) {
            DUE.is(inside.group(), inside.group().startsWith("    private static final class") ? 1 : 0, 1);
        }
    }

    private static Matcher heads(String code) {
        return Pattern.compile("(?m)^( +)((?:public |private |static )*)(?!return|else|new)[\\w\\[\\]]+ (\\w+)\\(([^)]*)\\) \\{$")
                .matcher(code);
    }

    private static String bodyOf(String code, Matcher head) {
        return code.substring(head.end(), code.indexOf("\n" + head.group(1) + "}", head.start()));
    }

    private static void methods(String code) {
        Matcher head = heads(code);
        StringBuilder seen = new StringBuilder(" ");
        int many = 0;
        while (head.find()) {
            many++;
            String name = head.group(3);
            long lines = bodyOf(code, head).lines().count() + 1;
            DUE.is(name + " has some sixty lines at most", lines <= 60 ? 1 : 0, 1);
            DUE.is(name + " has seven parameters at most", head.group(4).split(",").length <= 7 ? 1 : 0, 1);
            DUE.is("methods named " + name + " ahead", seen.indexOf(" " + name + " ") >= 0 ? 1 : 0, 0);
            seen.append(name).append(' ');
        }
        DUE.is("methods were found", many > 150 ? 1 : 0, 1);
    }

    private static void fields() {
        fieldsOf(QuarrelBridge.class);
        for (Class<?> inside : QuarrelBridge.class.getDeclaredClasses()) {
            fieldsOf(inside);
        }
    }

    private static void fieldsOf(Class<?> one) {
        int many = 0;
        for (Field field : one.getDeclaredFields()) {
            many += Modifier.isStatic(field.getModifiers()) ? 0 : 1;
        }
        DUE.is(one.getName() + " has some twenty fields, not " + many, many <= 20 ? 1 : 0, 1);
    }

    /** Names of methods are unique here, so a name behind which "(" stands is a call of it. */
    private static void depth(String code) {
        Map<String, String> bodies = new LinkedHashMap<>();
        Matcher head = heads(code);
        while (head.find()) {
            bodies.put(head.group(3), bodyOf(code, head));
        }
        for (String name : bodies.keySet()) {
            int deep = deepest(bodies, name, 0);
            DUE.is(name + " goes eight calls deep at most, not " + deep, deep <= 8 ? 1 : 0, 1);
        }
    }

    private static int deepest(Map<String, String> bodies, String name, int above) {
        if (above > 20) {
            return above;
        }
        int deep = 1;
        Matcher call = Pattern.compile("\\b(\\w+)\\(").matcher(bodies.get(name));
        while (call.find()) {
            if (bodies.containsKey(call.group(1))) {
                deep = Math.max(deep, 1 + deepest(bodies, call.group(1), above + 1));
            }
        }
        return deep;
    }
}
