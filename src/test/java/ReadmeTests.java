import java.io.File;
import java.lang.reflect.Method;
import java.lang.reflect.Modifier;
import java.nio.file.Path;
import java.util.ArrayList;
import java.util.List;
import java.util.Set;
import java.util.TreeSet;
import java.util.regex.Matcher;
import java.util.regex.Pattern;

/** README.md: its example's calls answer what stands behind them, and it names each call and test. */
public final class ReadmeTests {
    private static final Pattern CALL = Pattern.compile("siege\\.(\\w+)\\((.*)\\); +// (-?\\d+): .+");
    private static final String MADE = "BreadNumbered siege = new BreadNumbered();";

    public static void main(String[] args) throws Exception {
        String readme = Due.read(Path.of("README.md"));
        exampleAnswers(readme);
        callsAreNamed(readme);
        refusalsAreNamed(readme);
        testsAreNamed(readme);
        Due.end("ReadmeTests");
    }

    private static void exampleAnswers(String readme) throws Exception {
        Due.about("README.md's example");
        int from = readme.indexOf("```java") + "```java".length();
        BreadNumbered siege = new BreadNumbered();
        int calls = 0;
        for (String line : readme.substring(from, readme.indexOf("```", from)).trim().split("\n")) {
            Matcher call = CALL.matcher(line);
            if (call.matches()) {
                calls++;
                Due.due(line, answerOf(siege, call.group(1), call.group(2)), Long.parseLong(call.group(3)));
            } else {
                Due.holds("the example has a line that is no call with its answer: " + line, line.equals(MADE));
            }
        }
        Due.holds("the example has calls", calls > 0);
    }

    private static long answerOf(BreadNumbered siege, String name, String numbers) throws Exception {
        for (Method method : BreadNumbered.class.getDeclaredMethods()) {
            if (method.getName().equals(name) && Modifier.isPublic(method.getModifiers())) {
                return ((Number) method.invoke(siege, read(method.getParameterTypes(), numbers))).longValue();
            }
        }
        Due.holds("there is no call " + name, false);
        return 0;
    }

    private static Object[] read(Class<?>[] types, String numbers) {
        String[] told = numbers.isEmpty() ? new String[0] : numbers.split(", ");
        List<Object> all = new ArrayList<>();
        for (int i = 0; i < types.length; i++) {
            if (types[i] == boolean.class) {
                all.add(Boolean.parseBoolean(told[i]));
            } else if (types[i] == long.class) {
                all.add(Long.decode(told[i].replace("L", "")));
            } else {
                all.add(Integer.decode(told[i]));
            }
        }
        return all.toArray();
    }

    private static void callsAreNamed(String readme) {
        Due.about("README.md's list of calls");
        String overview = readme.substring(readme.indexOf("The calls:"));
        for (Method method : BreadNumbered.class.getDeclaredMethods()) {
            if (Modifier.isPublic(method.getModifiers())) {
                Due.holds("it lacks " + method.getName(),
                        overview.contains("`" + method.getName() + "`"));
            }
        }
    }

    private static void refusalsAreNamed(String readme) throws Exception {
        Due.about("README.md's refusals");
        String[] names = {"UNKNOWN", "OUTSIDE", "STATE", "FULL", "NONE"};
        for (String name : names) {
            long value = BreadNumbered.class.getField(name).getInt(null);
            Due.holds("they lack " + name + " as " + value, readme.contains("`" + name + "` (" + value));
        }
    }

    private static void testsAreNamed(String readme) {
        Due.about("README.md's tests");
        Set<String> named = new TreeSet<>();
        Matcher name = Pattern.compile("`(\\w+\\.java)`").matcher(readme.substring(readme.indexOf("## Tests")));
        while (name.find()) {
            named.add(name.group(1));
        }
        Set<String> there = new TreeSet<>();
        for (String file : new File("src/test/java").list()) {
            if (file.endsWith(".java")) {
                there.add(file);
            }
        }
        Due.holds("it names " + named + ", there are " + there, named.equals(there));
    }
}
