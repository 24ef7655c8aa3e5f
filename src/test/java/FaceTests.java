import java.lang.reflect.Constructor;
import java.lang.reflect.Field;
import java.lang.reflect.Method;
import java.lang.reflect.Modifier;
import java.nio.file.Path;
import java.util.ArrayList;
import java.util.List;
import java.util.Set;
import java.util.TreeSet;
import java.util.regex.Matcher;
import java.util.regex.Pattern;

/**
 * The class has the document's public face and nothing beside it, and keeps to those rules of
 * ../shared/LANGUAGE.md that can be seen by looking at it or at its text.
 */
public final class FaceTests {
    private static final Path SOURCE = Path.of("src", "main", "java", "BreadNumbered.java");
    private static final Pattern CONSTANT = Pattern.compile("(\\w+) = (-?\\d+)");
    private static final Pattern CALL = Pattern.compile("public (\\w+) (\\w+)\\((.*)\\);");
    private static final Pattern LOOP = Pattern.compile("(for|while) \\((.*)\\) \\{");

    private static final Set<String> TYPES = Set.of("int", "long", "short", "byte", "char", "boolean", "String",
            "int[]", "long[]", "short[]", "byte[]", "char[]", "boolean[]", "int[][]", "long[][]");
    private static final Set<String> LIBRARY = Set.of("System.arraycopy", "Integer.bitCount", "Integer.compare",
            "Integer.max", "Integer.min", "Long.bitCount", "Long.compare", "Math.max", "Math.min", "Math.abs",
            "Math.floorDiv", "Math.floorMod", "Arrays.fill", "Arrays.copyOf", "Arrays.copyOfRange");
    private static final String[] FORBIDDEN = {
        "throw", "throws", "try", "catch", "finally", "synchronized", "assert", "volatile", "transient", "native",
        "package", "import", "protected", "instanceof", "equals", "hashCode", "toString", "Object", "Thread", "goto"
    };
    private static final int MOST_LINES = 60;
    private static final int MOST_PARAMETERS = 7;
    private static final int MOST_FIELDS = 20;
    private static final int MOST_CLASSES = 12;

    public static void main(String[] args) throws Exception {
        faceOfTheDocument();
        constants();
        constructor();
        noOtherMember();
        classesInside();
        namesOfPrivateMethods();
        types();
        staticFields();
        sizes();
        String text = withoutComments(Due.read(SOURCE));
        library(text);
        words(text);
        loopsEnd(text);
        methodsAreShort(text);
        rowsOfTheConstructor(text);
        signs();
        Due.end("FaceTests");
    }

    // ---- the face

    /** The lines of the document's face, trimmed. */
    private static List<String> face() throws Exception {
        String document = Due.document();
        int from = document.indexOf("```java", document.indexOf("## The public face")) + "```java".length();
        List<String> lines = new ArrayList<>();
        for (String line : document.substring(from, document.indexOf("```", from)).split("\n")) {
            lines.add(line.trim());
        }
        return lines;
    }

    private static Set<String> callsOfTheDocument() throws Exception {
        Set<String> calls = new TreeSet<>();
        for (String line : face()) {
            Matcher call = CALL.matcher(line);
            if (call.matches()) {
                String types = call.group(3).replaceAll("(\\w+) \\w+", "$1").replace(" ", "");
                calls.add(call.group(1) + " " + call.group(2) + "(" + types + ")");
            }
        }
        return calls;
    }

    private static String nameOf(Method method) {
        List<String> types = new ArrayList<>();
        for (Class<?> type : method.getParameterTypes()) {
            types.add(type.getSimpleName());
        }
        return method.getReturnType().getSimpleName() + " " + method.getName() + "(" + String.join(",", types) + ")";
    }

    private static void faceOfTheDocument() throws Exception {
        Due.sentence("public final class BreadNumbered {");
        int modifiers = BreadNumbered.class.getModifiers();
        Due.holds("the class is public and final", Modifier.isPublic(modifiers) && Modifier.isFinal(modifiers));
        Due.holds("the class has no package", BreadNumbered.class.getPackageName().isEmpty());
        Due.holds("the class is of no other kind", BreadNumbered.class.getSuperclass() == Object.class
                && BreadNumbered.class.getInterfaces().length == 0);
        Set<String> calls = new TreeSet<>();
        for (Method method : BreadNumbered.class.getDeclaredMethods()) {
            if (Modifier.isPublic(method.getModifiers())) {
                calls.add(nameOf(method));
                Due.holds(method + " belongs to an object", !Modifier.isStatic(method.getModifiers()));
                Due.holds(method + " names no exception", method.getExceptionTypes().length == 0);
            }
        }
        Due.due("how many calls the document's face has", callsOfTheDocument().size(), 23);
        Due.holds("the calls are " + calls + ", due are " + callsOfTheDocument(), calls.equals(callsOfTheDocument()));
    }

    private static void constants() throws Exception {
        Due.sentence("public static final int UNKNOWN = -1, OUTSIDE = -2, STATE = -3, FULL = -4, NONE = -9;");
        Set<String> told = new TreeSet<>();
        for (String line : face()) {
            Matcher constant = CONSTANT.matcher(line);
            while (constant.find()) {
                told.add(constant.group(1) + " = " + constant.group(2));
            }
        }
        Set<String> there = new TreeSet<>();
        for (Field field : BreadNumbered.class.getDeclaredFields()) {
            if (Modifier.isPublic(field.getModifiers())) {
                Due.holds(field + " is a constant int", field.getType() == int.class
                        && Modifier.isStatic(field.getModifiers()) && Modifier.isFinal(field.getModifiers()));
                there.add(field.getName() + " = " + field.get(null));
            }
        }
        Due.due("how many constants there are", told.size(), 5);
        Due.holds("the constants are " + there + ", due are " + told, there.equals(told));
    }

    private static void constructor() throws Exception {
        Due.sentence("public BreadNumbered();");
        Constructor<?>[] all = BreadNumbered.class.getDeclaredConstructors();
        Due.due("how many constructors there are", all.length, 1);
        Due.holds("it is public", Modifier.isPublic(all[0].getModifiers()));
        Due.due("its parameters", all[0].getParameterCount(), 0);
    }

    // ---- rules that are seen from the class

    private static boolean isOfTheClassAlone(int modifiers) {
        return Modifier.isPrivate(modifiers) || Modifier.isPublic(modifiers);
    }

    private static void noOtherMember() throws Exception {
        Due.rule("no other public, protected or package-visible member");
        // The public ones are compared with the document's face; all others must be private.
        for (Method method : BreadNumbered.class.getDeclaredMethods()) {
            Due.holds(method + " is public or private", isOfTheClassAlone(method.getModifiers()) || method.isSynthetic());
        }
        for (Field field : BreadNumbered.class.getDeclaredFields()) {
            Due.holds(field + " is public or private", isOfTheClassAlone(field.getModifiers()));
        }
    }

    private static List<Class<?>> classes() {
        List<Class<?>> all = new ArrayList<>();
        all.add(BreadNumbered.class);
        for (int i = 0; i < all.size(); i++) {
            all.addAll(List.of(all.get(i).getDeclaredClasses()));
        }
        return all;
    }

    private static void classesInside() throws Exception {
        Due.rule("but for the classes inside it, which are private or package-visible and static.");
        for (Class<?> inside : classes()) {
            if (inside != BreadNumbered.class) {
                int modifiers = inside.getModifiers();
                Due.holds(inside + " is static", Modifier.isStatic(modifiers));
                Due.holds(inside + " is not handed out", !Modifier.isPublic(modifiers) && !Modifier.isProtected(modifiers));
            }
        }
    }

    private static void namesOfPrivateMethods() throws Exception {
        Due.rule("No private method bears the name of a public one.");
        Set<String> names = new TreeSet<>();
        for (String call : callsOfTheDocument()) {
            names.add(call.replaceAll(".* (\\w+)\\(.*", "$1"));
        }
        for (Class<?> inside : classes()) {
            for (Method method : inside.getDeclaredMethods()) {
                if (!Modifier.isPublic(method.getModifiers())) {
                    Due.holds(method + " bears the name of a call", !names.contains(method.getName()));
                }
            }
        }
    }

    private static boolean isAllowed(Class<?> type) {
        Class<?> element = type.isArray() ? type.getComponentType() : type;
        return TYPES.contains(type.getSimpleName()) || classes().contains(element);
    }

    private static void types() throws Exception {
        Due.rule("arrays of these and of your own classes, of one dimension, and arrays of two dimensions of numbers");
        for (Class<?> inside : classes()) {
            for (Field field : inside.getDeclaredFields()) {
                Due.holds(field + " is of a type that the rules name", isAllowed(field.getType()));
            }
        }
    }

    private static void staticFields() throws Exception {
        Due.rule("Static fields are final");
        for (Class<?> inside : classes()) {
            for (Field field : inside.getDeclaredFields()) {
                boolean isStatic = Modifier.isStatic(field.getModifiers());
                Due.holds(field + " is final", !isStatic || Modifier.isFinal(field.getModifiers()));
                Due.holds(field + " is a number or a text", !isStatic || !classes().contains(field.getType()));
            }
        }
    }

    private static void sizes() throws Exception {
        Due.rule("A method takes at most seven parameters.");
        Due.rule("the file has at most some twelve classes, and a class some twenty fields beside its constants.");
        Due.holds(classes().size() + " classes are too many", classes().size() <= MOST_CLASSES);
        for (Class<?> inside : classes()) {
            int fields = 0;
            for (Field field : inside.getDeclaredFields()) {
                fields += Modifier.isStatic(field.getModifiers()) ? 0 : 1;
            }
            Due.holds(fields + " fields of " + inside + " are too many", fields <= MOST_FIELDS);
            for (Method method : inside.getDeclaredMethods()) {
                Due.holds(method + " has too many parameters", method.getParameterCount() <= MOST_PARAMETERS);
            }
        }
    }

    // ---- rules that are seen from the text

    /** The text without comments, and without what stands between quotes; its lines stay. */
    private static String withoutComments(String source) {
        StringBuilder text = new StringBuilder();
        for (String line : blankBlocks(source).split("\n")) {
            String bare = line.replaceAll("'(\\\\.|[^'\\\\])'", "' '").replaceAll("\"(\\\\.|[^\"\\\\])*\"", "\"\"");
            text.append(bare.replaceAll("//.*", "")).append('\n');
        }
        return text.toString();
    }

    private static String blankBlocks(String source) {
        Matcher block = Pattern.compile("/\\*.*?\\*/", Pattern.DOTALL).matcher(source);
        return block.replaceAll(found -> found.group().replaceAll("[^\n]", ""));
    }

    private static void library(String text) throws Exception {
        Due.rule("The library: only what stands here.");
        Matcher used = Pattern.compile("\\b([A-Z][a-z]\\w*)\\.(\\w+)").matcher(text);
        while (used.find()) {
            Due.holds(used.group() + " is in no list of the rules", LIBRARY.contains(used.group()));
        }
        Due.rule("none of those whose name ends in Exact");
        Due.holds("a function ends in Exact", !Pattern.compile("Exact\\(").matcher(text).find());
    }

    private static void words(String text) throws Exception {
        Due.rule("No throw, try, catch, synchronized, assert, switch with patterns, record patterns.");
        for (String word : FORBIDDEN) {
            Due.holds("the word " + word + " stands there", !Pattern.compile("\\b" + word + "\\b").matcher(text).find());
        }
        Due.rule("no lambda, no method reference.");
        Due.holds("-> stands there", !text.contains("->"));
        Due.holds(":: stands there", !text.contains("::"));
        Due.rule("no static initialiser block.");
        Due.holds("a static block stands there", !Pattern.compile("\\bstatic\\s*\\{").matcher(text).find());
    }

    private static void loopsEnd(String text) throws Exception {
        Due.rule("Every loop has an end that can be seen from its own lines (a counter against a bound");
        String[] lines = text.split("\n");
        int loops = 0;
        for (int i = 0; i < lines.length; i++) {
            if (Pattern.compile("\\b(for|while|do)\\b").matcher(lines[i]).find()) {
                loops++;
                Due.holds("line " + (i + 1) + " is a loop whose end is not seen: " + lines[i].trim(),
                        endIsSeen(lines[i].trim(), i + 1 < lines.length ? lines[i + 1].trim() : ""));
            }
        }
        Due.holds("loops were found", loops > 0);
    }

    /** A counter that goes up to a bound, or down to one, by one a round. */
    private static boolean endIsSeen(String line, String next) {
        Matcher loop = LOOP.matcher(line);
        if (!loop.matches()) {
            return false;
        }
        String[] parts = loop.group(2).split(";");
        boolean isFor = loop.group(1).equals("for");
        if (isFor && parts.length != 3) {
            return false;
        }
        String condition = isFor ? parts[1] : parts[0];
        String step = isFor ? parts[2].trim() : next.replace(";", "");
        String counter = step.replaceAll("\\+\\+|--", "");
        String sign = step.endsWith("++") ? "<" : step.endsWith("--") ? ">" : "no step";
        // An 'or' could go on behind the bound.
        return !condition.contains("||") && Pattern.compile("\\b" + Pattern.quote(counter) + " " + sign).matcher(condition).find();
    }

    private static void methodsAreShort(String text) throws Exception {
        Due.rule("Methods stay short (some sixty lines)");
        String[] lines = text.split("\n");
        for (int i = 0; i < lines.length; i++) {
            Matcher begins = Pattern.compile("( +)[\\w\\[\\] ]+\\(.*\\) \\{").matcher(lines[i]);
            boolean isMethod = begins.matches() && !lines[i].trim().matches("(if|for|while|switch|else|\\}).*");
            if (isMethod) {
                int end = i;
                while (end < lines.length && !lines[end].equals(begins.group(1) + "}")) {
                    end++;
                }
                Due.holds("the method of line " + (i + 1) + " is long", end - i < MOST_LINES);
            }
        }
    }

    private static void rowsOfTheConstructor(String text) throws Exception {
        Due.rule("What a run makes is counted");
        String[] lines = text.split("\n");
        boolean isInConstructor = false;
        int made = 0;
        for (int i = 0; i < lines.length; i++) {
            isInConstructor = lines[i].equals("    public BreadNumbered() {") || isInConstructor && !lines[i].equals("    }");
            if (Pattern.compile("\\bnew\\b").matcher(lines[i]).find()) {
                made++;
                Due.holds("line " + (i + 1) + " makes an object in a call: " + lines[i].trim(),
                        isInConstructor || lines[i].matches(" +(private )?final [\\w\\[\\]]+ \\w+ = new .*"));
            }
        }
        Due.holds("what is made was found", made > 0);
        Due.holds("a copy is made in a call", !Pattern.compile("\\bclone\\(|copyOf").matcher(text).find());
    }

    private static void signs() throws Exception {
        Due.rule("whose signs are 1 to 127");
        for (char sign : Due.read(SOURCE).toCharArray()) {
            Due.holds("the sign " + (int) sign + " stands in the source", sign == '\n' || sign >= ' ' && sign < 127);
        }
    }
}
