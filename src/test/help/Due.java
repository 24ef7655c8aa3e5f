import java.nio.charset.StandardCharsets;
import java.nio.file.Files;
import java.nio.file.Path;

/**
 * What the tests by sentence share. A test says which sentence of the document (or of the rules for
 * its Java) it holds; the words must stand there, so that no test outlives its sentence unseen.
 */
final class Due {
    static final int UNKNOWN = -1, OUTSIDE = -2, STATE = -3, FULL = -4, NONE = -9;
    static final int PRIEST = 10, EATEN = 20;
    static final long FACTOR = 6364136223846793005L;
    static final long STEP = 1442695040888963407L;

    /** The greatest SIEGE there is: 5 PEOPLE, 10 LOAVES, 64 bytes. */
    static final String GREATEST =
            "S099P0P1P2P3P4L0100L1011L2022L3033L4044L5005L6016L7027L8038L9949";

    private static final Path DOCUMENT = Path.of("..", "shared", "DOC.md");
    private static final Path RULES = Path.of("..", "shared", "LANGUAGE.md");
    private static final int MOST_TOLD = 40;

    private static String document = "";
    private static String rules = "";
    private static String sentence = "";
    private static int wrong = 0;

    private Due() {
    }

    interface Setup {
        BreadNumbered make();
    }

    interface Call {
        long on(BreadNumbered x);
    }

    /** The sentence that is held by all that is asked from here on. */
    static void sentence(String words) throws Exception {
        if (document.isEmpty()) {
            document = inOneLine(read(DOCUMENT));
        }
        begins(words, document, DOCUMENT);
    }

    /** Likewise a rule of the Java that the class keeps to. */
    static void rule(String words) throws Exception {
        if (rules.isEmpty()) {
            rules = inOneLine(read(RULES));
        }
        begins(words, rules, RULES);
    }

    /** What is asked from here on, where no sentence of the document asks it. */
    static void about(String what) {
        sentence = what;
    }

    private static void begins(String words, String whole, Path file) {
        sentence = words;
        if (!whole.contains(inOneLine(words))) {
            fails("these words do not stand in " + file);
        }
    }

    /** The document as it stands, line by line. */
    static String document() throws Exception {
        return read(DOCUMENT);
    }

    static String read(Path file) throws Exception {
        return Files.readString(file, StandardCharsets.UTF_8);
    }

    private static String inOneLine(String text) {
        return text.replaceAll("\\s+", " ").trim();
    }

    static void due(String call, long got, long want) {
        if (got != want) {
            fails(call + " answered " + got + ", due is " + want);
        }
    }

    static void holds(String what, boolean isSo) {
        if (!isSo) {
            fails(what);
        }
    }

    private static void fails(String what) {
        wrong++;
        if (wrong <= MOST_TOLD) {
            System.out.println("\"" + sentence + "\": " + what);
        }
    }

    static void end(String test) {
        System.out.println(test + (wrong == 0 ? ": all as due" : ": " + wrong + " wrong"));
        if (wrong != 0) {
            System.exit(1);
        }
    }

    /** THE TEXT is wiped and then told, eight bytes a call; the signs are bytes. */
    static void tell(BreadNumbered x, String text) {
        x.wipe();
        for (int place = 0; place < text.length(); place += 8) {
            int end = Math.min(place + 8, text.length());
            long v = 0;
            for (int i = place; i < end; i++) {
                v = v << 8 | text.charAt(i) & 255;
            }
            x.write(end - place, v);
        }
    }

    static BreadNumbered told(String text) {
        BreadNumbered x = new BreadNumbered();
        tell(x, text);
        return x;
    }

    static BreadNumbered sieged(String text) {
        BreadNumbered x = told(text);
        holds("the test's own text is no siege: " + text, x.siege() >= 0);
        return x;
    }

    static long seedOf(BreadNumbered x) {
        long seed = x.seed(0);
        x.seed(seed);
        return seed;
    }

    /** The call is refused as told, and all is as it would be without it. */
    static void refused(Setup setup, String call, Call refusedCall, int want) {
        BreadNumbered x = setup.make();
        due(call, refusedCall.on(x), want);
        unchanged(setup, call, x);
    }

    /** The call answers, and all is as it would be without it. */
    static void onlyAsks(Setup setup, String call, Call question) {
        BreadNumbered x = setup.make();
        question.on(x);
        unchanged(setup, call, x);
    }

    private static void unchanged(Setup setup, String call, BreadNumbered x) {
        alike(call + " changed something", x, setup.make());
    }

    /** Both answer alike, whatever is asked; both are used up by it. */
    static void alike(String otherwise, BreadNumbered x, BreadNumbered y) {
        String with = allOf(x);
        String without = allOf(y);
        if (!with.equals(without)) {
            fails(otherwise + ": " + firstDifference(with, without));
        }
    }

    private static String firstDifference(String with, String without) {
        int place = 0;
        while (place < Math.min(with.length(), without.length()) && with.charAt(place) == without.charAt(place)) {
            place++;
        }
        return "behind " + part(without, place - 60, place) + " there is " + part(with, place, place + 60)
                + ", due is " + part(without, place, place + 60);
    }

    private static String part(String text, int from, int to) {
        return text.substring(Math.max(from, 0), Math.min(to, text.length()));
    }

    /** All that x answers, and what undo(), again() and siege() lead back to; x is used up by it. */
    private static String allOf(BreadNumbered x) {
        StringBuilder all = new StringBuilder();
        look(x, all);
        all.append("; undone");
        for (int act = 0; act <= 20; act++) {
            all.append(' ').append(x.undo());
            glance(x, all);
        }
        for (int slot = 0; slot <= 1; slot++) {
            all.append("; kept ").append(x.again(slot));
            look(x, all);
        }
        all.append("; anew ").append(x.siege());
        look(x, all);
        return all.toString();
    }

    private static void look(BreadNumbered x, StringBuilder all) {
        for (int what = 0; what <= 9; what++) {
            all.append(' ').append(x.count(what));
        }
        int people = x.count(1);
        int loaves = x.count(2);
        for (int person = 0; person < people; person++) {
            for (int what = 0; what <= 4; what++) {
                all.append(' ').append(x.person(person, what));
            }
        }
        for (int loaf = 0; loaf < loaves; loaf++) {
            for (int what = 0; what <= 5; what++) {
                all.append(' ').append(x.loaf(loaf, what));
            }
        }
        all.append(' ').append(x.lasts()).append(' ').append(x.best());
        all.append(' ').append(x.fault()).append(' ').append(seedOf(x));
    }

    private static void glance(BreadNumbered x, StringBuilder all) {
        all.append(" (").append(x.count(3)).append(' ').append(x.count(4)).append(' ').append(x.count(5));
        all.append(' ').append(x.count(8)).append(' ').append(x.loaf(0, 1)).append(' ').append(seedOf(x)).append(')');
    }
}
