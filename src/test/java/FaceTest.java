import java.io.IOException;
import java.lang.reflect.Constructor;
import java.lang.reflect.Executable;
import java.lang.reflect.Field;
import java.lang.reflect.Method;
import java.lang.reflect.Modifier;
import java.nio.file.Files;
import java.nio.file.Path;
import java.util.Set;
import java.util.TreeSet;
import java.util.regex.Matcher;
import java.util.regex.Pattern;

/** The class has the public face of ../shared/DOC.md, with the exceptions told there, and nothing else to be seen. */
public final class FaceTest {
    private static final Check C = new Check("FaceTest");
    private static final Pattern CALL = Pattern.compile("    public (?:(\\w+) )?(\\w+)\\((.*?)\\)(?: throws (.*))?;");

    public static void main(String[] args) throws IOException {
        Set<String> due = new TreeSet<>();
        for (String line : Files.readAllLines(Path.of("../shared/DOC.md"))) {
            Matcher m = CALL.matcher(line);
            if (m.matches()) {
                due.add(told(m));
            }
        }
        C.due("calls of the document's face", due.size(), 50);
        Set<String> got = new TreeSet<>();
        for (Constructor<?> c : BackVillage.class.getDeclaredConstructors()) {
            got.add(seen(c, "new"));
        }
        for (Method m : BackVillage.class.getDeclaredMethods()) {
            if (!Modifier.isPrivate(m.getModifiers())) {
                got.add(seen(m, m.getReturnType().getSimpleName() + " " + m.getName()));
                C.due("to be called: " + m.getName(), m.getModifiers(), Modifier.PUBLIC);
            }
        }
        for (String call : due) {
            C.due("the face has " + call, got.contains(call), true);
        }
        for (String call : got) {
            C.due("the document has " + call, due.contains(call), true);
        }
        for (Field f : BackVillage.class.getDeclaredFields()) {
            boolean open = !Modifier.isPrivate(f.getModifiers());
            C.due("to be seen: " + f.getName(), open, f.getName().equals("NONE"));
        }
        C.due("public and final", BackVillage.class.getModifiers(), Modifier.PUBLIC | Modifier.FINAL);
        C.due("NONE", BackVillage.NONE, -1);
        C.finish();
    }

    private static String told(Matcher m) {
        StringBuilder t = new StringBuilder(m.group(1) == null ? "new" : m.group(1) + " " + m.group(2));
        for (String parameter : m.group(3).split(", ")) {
            t.append(parameter.isEmpty() ? "" : " " + parameter.split(" ")[0]);
        }
        return t.append(" throws ").append(m.group(4) == null ? "" : new TreeSet<>(Set.of(m.group(4).split(", ")))).toString();
    }

    private static String seen(Executable e, String name) {
        StringBuilder t = new StringBuilder(name);
        for (Class<?> type : e.getParameterTypes()) {
            t.append(' ').append(type.getSimpleName());
        }
        Set<String> thrown = new TreeSet<>();
        for (Class<?> type : e.getExceptionTypes()) {
            thrown.add(type.getSimpleName());
        }
        return t.append(" throws ").append(thrown.isEmpty() ? "" : thrown).toString();
    }
}
