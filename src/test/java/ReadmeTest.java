import java.lang.reflect.Method;
import java.lang.reflect.Modifier;
import java.nio.charset.StandardCharsets;
import java.nio.file.Files;
import java.nio.file.Path;
import java.util.List;
import java.util.regex.Matcher;
import java.util.regex.Pattern;

/** Runs the examples of README.md: each call there answers what the comment behind it says. */
public final class ReadmeTest {
    private static final Pattern CALL =
            Pattern.compile("x\\.(\\w+)\\(([^)]*)\\); +// (-?\\w+): (.*)");
    private static final Pattern FEED = Pattern.compile("feed\\(x, \"(.*)\"\\);");
    private static final String RECORD_IS = "the record is ";

    private StreamRefuter x = new StreamRefuter();
    private final Check check = new Check("ReadmeTest");

    public static void main(String[] args) throws Exception {
        ReadmeTest test = new ReadmeTest();
        List<String> lines = Files.readAllLines(Path.of("README.md"), StandardCharsets.UTF_8);
        boolean inCode = false;
        for (String line : lines) {
            if (line.startsWith("```")) {
                inCode = line.equals("```java");
            } else if (inCode) {
                test.run(line);
            }
        }
        test.everyCallIsNamed(String.join("\n", lines));
        test.check.finish();
    }

    private void run(String line) {
        Matcher feed = FEED.matcher(line);
        Matcher call = CALL.matcher(line);
        if (feed.matches()) {
            Check.put(x, feed.group(1).translateEscapes());
        } else if (call.matches()) {
            String[] args = call.group(2).isEmpty() ? new String[0] : call.group(2).split(", ");
            Object answer = Check.answer(() -> ask(call.group(1), args));
            check.same(line, answer.toString(), call.group(3));
            if (call.group(4).startsWith(RECORD_IS)) {
                check.same("the record behind " + line, Check.record(x),
                        call.group(4).substring(RECORD_IS.length()));
            }
        } else if (line.startsWith("StreamRefuter x")) {
            x = new StreamRefuter();
        } else {
            check.same("a call without an answer: " + line, line.startsWith("x."), false);
        }
    }

    private Object ask(String name, String[] args) {
        switch (name) {
            case "formula": return x.formula();
            case "stream": return x.stream(Boolean.parseBoolean(args[0]));
            case "record": return x.record();
            case "fault": return x.fault();
            case "clauses": return x.clauses();
            case "literal": return x.literal(Integer.parseInt(args[0]), Integer.parseInt(args[1]));
            case "end": return x.end();
            case "forward": return x.forward();
            case "refute": return x.refute();
            case "marked": return x.marked(Integer.parseInt(args[0]));
            case "way": return x.way(Integer.parseInt(args[0]));
            case "tokens": return x.tokens();
            case "token": return x.token(Integer.parseInt(args[0]));
            case "alter": return x.alter(Integer.parseInt(args[0]), Integer.parseInt(args[1]));
            case "judge": return x.judge();
            default: return "no such call: " + name;
        }
    }

    private void everyCallIsNamed(String readme) {
        for (Method method : StreamRefuter.class.getDeclaredMethods()) {
            if (Modifier.isPublic(method.getModifiers())) {
                check.same("README.md tells of " + method.getName(),
                        readme.contains("`" + method.getName() + "("), true);
            }
        }
    }
}
