import java.lang.reflect.Constructor;
import java.lang.reflect.Field;
import java.lang.reflect.Member;
import java.lang.reflect.Method;
import java.lang.reflect.Modifier;
import java.nio.file.Files;
import java.nio.file.Path;
import java.util.Set;
import java.util.TreeSet;
import java.util.regex.Matcher;
import java.util.regex.Pattern;

/** The public face is the one of the document's code block, and nothing else can be seen. */
public final class FaceTest {
    public static void main(String[] args) throws Exception {
        Due due = new Due("FaceTest");
        Set<String> wanted = faceOfDocument();
        Set<String> found = new TreeSet<>();
        for (Method m : QuarrelBridge.class.getDeclaredMethods()) {
            if (seen(m)) {
                StringBuilder told = new StringBuilder(m.getReturnType() + " " + m.getName());
                for (Class<?> type : m.getParameterTypes()) {
                    told.append(' ').append(type);
                }
                found.add(told.toString());
            }
        }
        for (String one : wanted) {
            due.is("the face has " + one, found.contains(one) ? 1 : 0, 1);
        }
        for (String one : found) {
            due.is("the document has " + one, wanted.contains(one) ? 1 : 0, 1);
        }
        due.is("how many methods", wanted.size(), 73);
        for (Field f : QuarrelBridge.class.getDeclaredFields()) {
            due.is("seen field " + f.getName(), seen(f) ? 1 : 0, f.getName().equals("NONE") ? 1 : 0);
        }
        Constructor<?>[] made = QuarrelBridge.class.getDeclaredConstructors();
        due.is("constructors", made.length, 1);
        due.is("a public constructor", Modifier.isPublic(made[0].getModifiers()) ? 1 : 0, 1);
        due.is("parameters of it", made[0].getParameterCount(), 0);
        int how = QuarrelBridge.class.getModifiers();
        due.is("public final", Modifier.isPublic(how) && Modifier.isFinal(how) ? 1 : 0, 1);
        due.is("NONE", QuarrelBridge.NONE, -1);
        due.close();
    }

    private static boolean seen(Member m) {
        return !Modifier.isPrivate(m.getModifiers()) && !m.isSynthetic();
    }

    private static Set<String> faceOfDocument() throws Exception {
        String text = Files.readString(Path.of("../shared/DOC.md"));
        String block = text.substring(text.indexOf("```java"), text.indexOf("## Terms"));
        Matcher line = Pattern.compile("public (int|long) (\\w+)\\(([^)]*)\\);").matcher(block);
        Set<String> face = new TreeSet<>();
        while (line.find()) {
            StringBuilder told = new StringBuilder(line.group(1) + " " + line.group(2));
            for (String one : line.group(3).split(",")) {
                if (!one.isBlank()) {
                    told.append(' ').append(one.trim().split(" ")[0]);
                }
            }
            face.add(told.toString());
        }
        return face;
    }
}
