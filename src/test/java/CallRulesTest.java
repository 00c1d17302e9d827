import java.io.IOException;
import java.nio.file.Files;
import java.nio.file.Path;
import java.util.ArrayList;
import java.util.LinkedHashMap;
import java.util.List;
import java.util.Map;
import java.util.regex.Matcher;
import java.util.regex.Pattern;

/** Rules 8 and 10 of LANGUAGE.md, as far as they are about how the methods of the class call each other. */
public final class CallRulesTest {
    private static final int MOST_LINES = 60;
    private static final int MOST_DEEP = 6;
    private static final Pattern METHOD =
        Pattern.compile("(?ms)^    (?:public|private) [\\w ]*?(\\w+)\\([^)]*\\) \\{\n(.*?)^    \\}\n");

    /** The lines of each method, by its name. */
    private final Map<String, String> bodies = new LinkedHashMap<>();

    private CallRulesTest(String code) {
        Matcher method = METHOD.matcher(code);
        while (method.find()) {
            bodies.put(method.group(1), method.group(2));
        }
    }

    public static void main(String[] args) throws IOException {
        CallRulesTest rules = new CallRulesTest(Files.readString(Path.of("src/main/java/UnitigBuilder.java")));
        Check.test("Rules 8 and 10, every method of the class is looked at", rules::allAreFound);
        Check.test("Rules 8 and 10, no recursion, calls go at most six deep", rules::depth);
        Check.test("Rule 10, no call stands inside the arguments of another call", rules::noCallInArguments);
        Check.test("Rule 10, methods stay short", rules::shortMethods);
        Check.finish();
    }

    /** One constructor more than methods; no two methods of the class share a name. */
    private void allAreFound() {
        Check.due("methods found", bodies.size(), UnitigBuilder.class.getDeclaredMethods().length + 1);
    }

    private List<String> callsIn(String code) {
        List<String> calls = new ArrayList<>();
        Matcher call = Pattern.compile("\\b(\\w+)\\s*\\(").matcher(code);
        while (call.find()) {
            if (bodies.containsKey(call.group(1))) {
                calls.add(call.group(1));
            }
        }
        return calls;
    }

    /** Takes one method off each row of calls at a time; what recurs is never used up. */
    private void depth() {
        Map<String, Integer> depths = new LinkedHashMap<>();
        for (int depth = 1; depth <= MOST_DEEP; depth++) {
            Map<String, Integer> known = Map.copyOf(depths);
            for (String name : bodies.keySet()) {
                if (known.keySet().containsAll(callsIn(bodies.get(name)))) {
                    depths.putIfAbsent(name, depth);
                }
            }
        }
        for (String name : bodies.keySet()) {
            Check.holds(name + " goes at most six deep", depths.containsKey(name));
        }
    }

    private void noCallInArguments() {
        for (String body : bodies.values()) {
            Matcher call = Pattern.compile("\\b(\\w+)\\s*\\(").matcher(body);
            while (call.find()) {
                if (bodies.containsKey(call.group(1))) {
                    String arguments = body.substring(call.end(), closing(body, call.end()));
                    Check.holds(call.group() + arguments + ")", callsIn(arguments).isEmpty());
                }
            }
        }
    }

    private static int closing(String code, int from) {
        int open = 1;
        int at = from;
        while (open > 0) {
            open += code.charAt(at) == '(' ? 1 : code.charAt(at) == ')' ? -1 : 0;
            at++;
        }
        return at - 1;
    }

    private void shortMethods() {
        bodies.forEach((name, body) -> Check.holds(name, body.lines().count() <= MOST_LINES));
    }
}
