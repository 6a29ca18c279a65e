import java.lang.reflect.Method;
import java.lang.reflect.Modifier;
import java.nio.file.Files;
import java.nio.file.Path;
import java.util.HashMap;
import java.util.List;
import java.util.Map;
import java.util.regex.Matcher;
import java.util.regex.Pattern;

/** What README.md tells: the answers behind the calls of its examples, and that each call of the face is named. */
public final class ReadmeTest {
    private static final Pattern CALL = Pattern.compile("x\\.(\\w+)\\((.*)\\); +// (-?\\d+|[A-Z]+)(: .*)?");
    private static final String MADE = "CallStages x = new CallStages();";
    private static final Due DUE = new Due("ReadmeTest");

    public static void main(String[] args) throws Exception {
        Map<String, Method> face = face();
        List<String> lines = Files.readAllLines(Path.of("README.md"));
        String page = String.join("\n", lines);
        for (String name : face.keySet()) {
            DUE.due("README.md names " + name, page.contains("`" + name + "`") || page.contains("`" + name + "(") ? 1 : 0, 1);
        }
        int examples = 0;
        CallStages x = null;
        boolean inside = false;
        for (String line : lines) {
            if (line.startsWith("```")) {
                inside = line.equals("```java");
                if (inside) examples++;
            } else if (inside && line.equals(MADE)) {
                x = new CallStages();
            } else if (inside) {
                ask(face, x, line);
            }
        }
        DUE.due("examples, one for each part", examples, 5);
        DUE.end();
    }

    private static Map<String, Method> face() {
        Map<String, Method> face = new HashMap<>();
        for (Method one : CallStages.class.getDeclaredMethods()) {
            if (Modifier.isPublic(one.getModifiers())) face.put(one.getName(), one);
        }
        return face;
    }

    private static void ask(Map<String, Method> face, CallStages x, String line) throws Exception {
        Matcher read = CALL.matcher(line);
        boolean isCall = read.matches() && face.containsKey(read.group(1));
        DUE.due("a call with its answer: " + line, isCall ? 1 : 0, 1);
        if (!isCall) return;
        Method called = face.get(read.group(1));
        String[] words = read.group(2).isEmpty() ? new String[0] : read.group(2).split(", ");
        Object[] given = new Object[words.length];
        for (int i = 0; i < words.length; i++) {
            long number = words[i].startsWith("0b") ? Long.parseLong(words[i].substring(2), 2) : Long.parseLong(words[i]);
            if (called.getParameterTypes()[i] == long.class) given[i] = number; else given[i] = (int) number;
        }
        DUE.due(line, ((Number) called.invoke(x, given)).longValue(), told(read.group(3)));
    }

    private static long told(String answer) throws Exception {
        if (!Character.isLetter(answer.charAt(0))) return Long.parseLong(answer);
        return ((Number) CallStages.class.getField(answer).get(null)).longValue();
    }
}
