import java.math.BigInteger;
import java.util.ArrayList;
import java.util.HashMap;
import java.util.List;
import java.util.Map;

/**
 * Long runs of calls beside a second model that is as plain as can be: it copies all for each act,
 * tries every meal for best(), and every ending of a text for fault().
 */
public final class ModelRuns {
    private static final int RUNS = 1000;
    // The document promises 512 calls of an object; the dearest step and the last look take fewer than 200.
    private static final int CALLS_OF_STEPS = 300;
    private static final int CALLS_PROMISED = 512;

    private static int wrong = 0;
    private static long drawn = 20261118L;

    public static void main(String[] args) {
        for (int run = 0; run < RUNS && wrong < 20; run++) {
            new Run(run).go();
        }
        for (int run = 0; run < 240 && wrong < 20; run++) {
            faultsOfText(run);
        }
        for (int n = 1; n <= 99; n++) {
            for (int v = 1; v <= 99; v++) {
                for (int x = 0; x <= 10; x++) {
                    forgedOf(v, n, x);
                }
            }
        }
        System.out.println(wrong == 0 ? "ModelRuns: all as due" : "ModelRuns: " + wrong + " wrong");
        if (wrong != 0) {
            System.exit(1);
        }
    }

    /** The same numbers each time. */
    private static int draw(int below) {
        drawn = drawn * 0x5DEECE66DL + 11;
        return (int) Math.floorMod(drawn >>> 20, (long) below);
    }

    // ---- texts

    private static String someText() {
        StringBuilder text = new StringBuilder("S").append(draw(3)).append(draw(9) + 1).append(draw(9) + 1);
        int lives = text.charAt(2) - '0';
        int people = draw(6);
        int told = 0;
        List<String> numbers = new ArrayList<>();
        int loaves = draw(11);
        for (int part = 0; part < people + loaves; part++) {
            if (told < people && (told == 0 || draw(3) > 0)) {
                text.append('P').append(draw(lives + 1));
                told++;
            } else if (told > 0 && numbers.size() < loaves) {
                String number = draw(3) == 0 ? "" + draw(10) + "9" : "" + draw(10) + draw(10);
                if (!number.equals("00") && !numbers.contains(number)) {
                    numbers.add(number);
                    text.append('L').append(number).append(draw(told)).append(draw(3) > 0 ? draw(4) : draw(10));
                }
            }
        }
        return text.toString();
    }

    private static String spoilt(String text) {
        String signs = "SPL0123456789/:p";
        StringBuilder other = new StringBuilder(text);
        for (int times = draw(3); times >= 0; times--) {
            int place = draw(other.length() + 1);
            char sign = signs.charAt(draw(signs.length()));
            int how = draw(4);
            if (how == 0) {
                other.insert(place, sign);
            } else if (how == 1 && place < other.length()) {
                other.setCharAt(place, sign);
            } else if (how == 2 && place < other.length()) {
                other.deleteCharAt(place);
            } else {
                other.setLength(place);
            }
        }
        return other.substring(0, Math.min(80, other.length()));
    }

    /** How many calls it took. */
    private static int tell(BreadNumbered x, String text) {
        x.wipe();
        int calls = 1;
        for (int place = 0; place < text.length(); ) {
            int n = Math.min(1 + draw(8), text.length() - place);
            long v = draw(1000) - 500;
            for (int i = 0; i < n; i++) {
                v = v << 8 | text.charAt(place + i);
            }
            x.write(n, v);
            calls++;
            place += n;
        }
        return calls;
    }

    private static boolean isSiege(String text) {
        if (!text.matches("S[0-2][1-9][1-9](P[0-9]|L[0-9]{4})*")) {
            return false;
        }
        int people = 0;
        List<String> numbers = new ArrayList<>();
        for (int place = 4; place < text.length(); ) {
            if (text.charAt(place) == 'P') {
                if (text.charAt(place + 1) > text.charAt(2)) {
                    return false;
                }
                people++;
                place += 2;
            } else {
                String number = text.substring(place + 1, place + 3);
                if (number.equals("00") || numbers.contains(number) || text.charAt(place + 3) - '0' >= people) {
                    return false;
                }
                numbers.add(number);
                place += 5;
            }
        }
        return people <= 5 && numbers.size() <= 10;
    }

    private static boolean hasEnding(String text, int signsLeft) {
        if (isSiege(text)) {
            return true;
        }
        if (signsLeft > 0) {
            for (char sign : "SPL0123456789".toCharArray()) {
                if (hasEnding(text + sign, signsLeft - 1)) {
                    return true;
                }
            }
        }
        return false;
    }

    private static void faultsOfText(int run) {
        String text = run % 3 == 0 ? someText() : spoilt(someText());
        BreadNumbered x = new BreadNumbered();
        tell(x, text);
        int fault = x.fault();
        boolean good = fault == -9
                ? isSiege(text)
                : fault >= 0 && fault <= text.length() && !isSiege(text)
                        && hasEnding(text.substring(0, fault), 4)
                        && (fault == text.length() || !hasEnding(text.substring(0, fault + 1), 3));
        if (!good) {
            wrong++;
            System.out.println("fault() of " + text + " answered " + fault);
        }
    }

    // ---- forged

    private static void forgedOf(int v, int n, int x) {
        int wereCut = 0;
        int stayed = 0;
        for (int number = 1; number <= n; number++) {
            String figures = "" + number / 10 + number % 10;
            boolean hasNine = figures.contains("9");
            if (hasNine && Integer.parseInt(figures.replaceFirst("9", "6")) == v) {
                wereCut += x;
            }
            if (number == v) {
                stayed += hasNine ? 10 - x : 10;
            }
        }
        BreadNumbered any = new BreadNumbered();
        long above = any.forged(v, n, x, true);
        long below = any.forged(v, n, x, false);
        boolean good = wereCut + stayed == 0
                ? above == -3 && below == -3
                : below > 0 && above * (wereCut + stayed) == below * wereCut
                        && BigInteger.valueOf(above).gcd(BigInteger.valueOf(below)).equals(BigInteger.ONE);
        if (!good) {
            wrong++;
            System.out.println("forged(" + v + ", " + n + ", " + x + ") answered " + above + " by " + below);
        }
    }

    // ---- the model

    private static final class Person {
        int fasted;
        boolean alive = true;
        boolean ate;
        int meals;

        Person copy() {
            Person other = new Person();
            other.fasted = fasted;
            other.alive = alive;
            other.ate = ate;
            other.meals = meals;
            return other;
        }
    }

    private static final class Loaf {
        int number;
        int where;
        int age;
        int by = -9;
        int on = -9;

        Loaf copy() {
            Loaf other = new Loaf();
            other.number = number;
            other.where = where;
            other.age = age;
            other.by = by;
            other.on = on;
            return other;
        }
    }

    private static final class World {
        int law = 0;
        int lives = 9;
        int bad = 9;
        int day = 0;
        long seed = 0;
        final List<Person> people = new ArrayList<>();
        final List<Loaf> loaves = new ArrayList<>();

        World copy() {
            World other = new World();
            other.law = law;
            other.lives = lives;
            other.bad = bad;
            other.day = day;
            other.seed = seed;
            people.forEach(p -> other.people.add(p.copy()));
            loaves.forEach(l -> other.loaves.add(l.copy()));
            return other;
        }

        static World of(String text, long seed) {
            World world = new World();
            world.law = text.charAt(1) - '0';
            world.lives = text.charAt(2) - '0';
            world.bad = text.charAt(3) - '0';
            world.seed = seed;
            for (int place = 4; place < text.length(); ) {
                if (text.charAt(place) == 'P') {
                    Person person = new Person();
                    person.fasted = text.charAt(place + 1) - '0';
                    world.people.add(person);
                    place += 2;
                } else {
                    Loaf loaf = new Loaf();
                    loaf.number = Integer.parseInt(text.substring(place + 1, place + 3));
                    loaf.where = text.charAt(place + 3) - '0';
                    loaf.age = text.charAt(place + 4) - '0';
                    world.loaves.add(loaf);
                    place += 5;
                }
            }
            return world;
        }

        List<Integer> alive() {
            List<Integer> alive = new ArrayList<>();
            for (int p = 0; p < people.size(); p++) {
                if (people.get(p).alive) {
                    alive.add(p);
                }
            }
            return alive;
        }

        boolean good(Loaf loaf) {
            return loaf.age < bad;
        }

        boolean may(int p, int l) {
            Loaf loaf = loaves.get(l);
            if (!people.get(p).alive || people.get(p).ate || loaf.where != p || !good(loaf)) {
                return false;
            }
            return switch (law) {
                case 0 -> loaves.stream().noneMatch(o -> o.where == p && good(o) && o.number < loaf.number);
                case 1 -> loaves.stream().noneMatch(o -> o.where <= 4 && good(o) && o.number < loaf.number);
                default -> true;
            };
        }

        void eat(int p, int l) {
            Person person = people.get(p);
            person.ate = true;
            person.fasted = 0;
            person.meals++;
            Loaf loaf = loaves.get(l);
            loaf.where = 20;
            loaf.by = p;
            loaf.on = day;
        }

        int dayGoesBy() {
            int died = 0;
            for (int p : alive()) {
                Person person = people.get(p);
                if (!person.ate && ++person.fasted > lives) {
                    person.alive = false;
                    died += 1 << p;
                    for (Loaf loaf : loaves) {
                        loaf.where = loaf.where == p ? 10 : loaf.where;
                    }
                }
            }
            people.forEach(p -> p.ate = false);
            for (Loaf loaf : loaves) {
                if (loaf.where != 20 && loaf.age < 99) {
                    loaf.age++;
                }
            }
            day++;
            return died;
        }

        int night() {
            List<Integer> alive = alive();
            if (alive.isEmpty()) {
                return -9;
            }
            BigInteger x = BigInteger.valueOf(seed).multiply(new BigInteger("6364136223846793005"))
                    .add(new BigInteger("1442695040888963407"));
            seed = x.longValue();
            BigInteger upper = x.mod(BigInteger.ONE.shiftLeft(64)).shiftRight(33);
            BigInteger[] parts = upper.divideAndRemainder(BigInteger.valueOf(alive.size()));
            int thief = alive.get(parts[1].intValue());
            List<Integer> others = new ArrayList<>();
            for (int l = 0; l < loaves.size(); l++) {
                int where = loaves.get(l).where;
                if (where != thief && alive.contains(where)) {
                    others.add(l);
                }
            }
            if (others.isEmpty()) {
                return -9;
            }
            int loaf = others.get(parts[0].mod(BigInteger.valueOf(others.size())).intValue());
            loaves.get(loaf).where = thief;
            return thief * 10 + loaf;
        }

        /** The days, and who. */
        int[] lasts() {
            World ahead = copy();
            if (alive().isEmpty()) {
                return new int[] {0, -9};
            }
            for (int days = 1; days <= 200; days++) {
                for (int p : ahead.alive()) {
                    int least = -1;
                    for (int l = 0; l < ahead.loaves.size(); l++) {
                        if (ahead.may(p, l)
                                && (least < 0 || ahead.loaves.get(l).number < ahead.loaves.get(least).number)) {
                            least = l;
                        }
                    }
                    if (least >= 0) {
                        ahead.eat(p, least);
                    }
                }
                int died = ahead.dayGoesBy();
                if (died != 0) {
                    return new int[] {days, Integer.numberOfTrailingZeros(died)};
                }
            }
            return new int[] {-9, -9};
        }

        int best() {
            List<Integer> alive = alive();
            if (alive.isEmpty() || alive.size() > 3) {
                return -3;
            }
            int[] fasted = new int[3];
            boolean[] ate = new boolean[3];
            java.util.Arrays.fill(fasted, -1);
            for (int i = 0; i < alive.size(); i++) {
                fasted[i] = people.get(alive.get(i)).fasted;
                ate[i] = people.get(alive.get(i)).ate;
            }
            int left = 0;
            for (int l = 0; l < loaves.size(); l++) {
                if (loaves.get(l).where <= 4) {
                    left |= 1 << l;
                }
            }
            return longest(0, fasted, ate, left, new HashMap<>());
        }

        /** Every choice of who eats which loaf; -1 for fasted: there is no such person. */
        private int longest(int ahead, int[] fasted, boolean[] ate, int left, Map<String, Integer> known) {
            String key = ahead + " " + fasted[0] + " " + fasted[1] + " " + fasted[2] + " " + left;
            Integer answer = known.get(key);
            if (answer == null) {
                answer = fromPerson(0, ahead, fasted, ate, left, known);
                known.put(key, answer);
            }
            return answer;
        }

        private int fromPerson(int i, int ahead, int[] fasted, boolean[] ate, int left, Map<String, Integer> known) {
            if (i == 3) {
                return 1 + longest(ahead + 1, fasted, new boolean[3], left, known);
            }
            int most = 0;
            int[] next = fasted.clone();
            if (fasted[i] < 0) {
                return fromPerson(i + 1, ahead, fasted, ate, left, known);
            }
            next[i] = ate[i] ? 0 : fasted[i] + 1;
            if (next[i] <= lives) {
                most = fromPerson(i + 1, ahead, next, ate, left, known);
            }
            next[i] = 0;
            for (int l = 0; l < loaves.size() && !ate[i]; l++) {
                if ((left >> l & 1) == 1 && loaves.get(l).age + ahead < bad) {
                    most = Math.max(most, fromPerson(i + 1, ahead, next, ate, left & ~(1 << l), known));
                }
            }
            return most;
        }

        List<Integer> missing() {
            List<Integer> missing = new ArrayList<>();
            int greatest = loaves.stream().mapToInt(l -> l.number).max().orElse(0);
            for (int number = 1; number <= greatest; number++) {
                int wanted = number;
                if (loaves.stream().noneMatch(l -> l.number == wanted)) {
                    missing.add(number);
                }
            }
            return missing;
        }
    }

    // ---- runs

    private static final class Run {
        final int run;
        final BreadNumbered x = new BreadNumbered();
        final List<String> told = new ArrayList<>();
        World world = new World();
        List<World> row = new ArrayList<>();
        World[] slots = new World[2];
        String text = "";
        int calls = 0;

        Run(int run) {
            this.run = run;
        }

        void go() {
            newSiege();
            // Runs that seldom look have the longest rows of acts.
            int looks = 1 + draw(6);
            while (calls < CALLS_OF_STEPS && wrong < 20) {
                act();
                if (draw(looks) == 0) {
                    lookAtSome();
                }
                if (draw(20) == 0) {
                    lookAhead();
                }
            }
            look();
            lookAhead();
            if (calls > CALLS_PROMISED) {
                wrong++;
                System.out.println("run " + run + " took " + calls + " calls");
            }
        }

        void due(String call, long got, long want) {
            calls++;
            told.add(call);
            if (got != want) {
                wrong++;
                System.out.println("run " + run + ": " + call + " answered " + got + ", due is " + want);
                System.out.println("  behind " + told.subList(Math.max(0, told.size() - 40), told.size()));
            }
        }

        void newSiege() {
            text = draw(4) == 0 ? spoilt(someText()) : someText();
            calls += tell(x, text);
            told.add(text);
            if (isSiege(text)) {
                due("siege()", x.siege(), text.replaceAll("[^P]", "").length() * 100 + text.replaceAll("[^L]", "").length());
                world = World.of(text, world.seed);
                row.clear();
                slots = new World[2];
            } else {
                due("siege()", x.siege(), -3);
            }
        }

        void remember() {
            row.add(world.copy());
            if (row.size() > 20) {
                row.remove(0);
            }
        }

        void act() {
            int what = draw(200);
            if (what == 0) {
                newSiege();
            } else if (what < 60) {
                eat(draw(world.people.size() + 1) - draw(40) / 39, draw(world.loaves.size() + 1) - draw(40) / 39);
            } else if (what < 100) {
                int to = draw(3) == 0 ? 10 : draw(world.people.size() + 1) - draw(40) / 39;
                give(draw(world.loaves.size() + 1) - draw(40) / 39, to);
            } else if (what < 115) {
                cut(draw(world.loaves.size() + 1) - draw(40) / 39);
            } else if (what < 130) {
                remember();
                due("day()", x.day(), world.dayGoesBy());
            } else if (what < 150) {
                if (!world.alive().isEmpty()) {
                    remember();
                }
                due("night()", x.night(), world.night());
            } else if (what < 175) {
                undo(draw(5) == 0 ? 12 : 1);
            } else if (what < 180) {
                long v = draw(1000) * 0x123456789ABCDEFL * (draw(3) - 1);
                due("seed(" + v + ")", x.seed(v), world.seed);
                world.seed = v;
            } else if (what < 188) {
                keep(draw(4) - 1);
            } else if (what < 192) {
                again(draw(4) - 1);
            }
        }

        boolean isPerson(int p) {
            return p >= 0 && p < world.people.size();
        }

        boolean isLoaf(int l) {
            return l >= 0 && l < world.loaves.size();
        }

        void eat(int p, int l) {
            int want = !isPerson(p) || !isLoaf(l) ? -1 : !world.may(p, l) ? -3 : world.loaves.get(l).number;
            due("eat(" + p + ", " + l + ")", x.eat(p, l), want);
            if (want > 0) {
                remember();
                world.eat(p, l);
            }
        }

        void give(int l, int p) {
            int want;
            if (!isLoaf(l) || !isPerson(p) && p != 10) {
                want = -1;
            } else {
                want = world.loaves.get(l).where;
                if (want == 20 || want == p || p != 10 && !world.people.get(p).alive) {
                    want = -3;
                }
            }
            due("give(" + l + ", " + p + ")", x.give(l, p), want);
            if (want >= 0) {
                remember();
                world.loaves.get(l).where = p;
            }
        }

        void cut(int l) {
            int want = -1;
            if (isLoaf(l)) {
                Loaf loaf = world.loaves.get(l);
                String figures = "" + loaf.number / 10 + loaf.number % 10;
                want = loaf.where == 20 || !figures.contains("9")
                        ? -3 : Integer.parseInt(figures.replaceFirst("9", "6"));
            }
            due("cut(" + l + ")", x.cut(l), want);
            if (want > 0) {
                remember();
                world.loaves.get(l).number = want;
            }
        }

        void undo(int times) {
            for (int i = 0; i < times; i++) {
                if (row.isEmpty()) {
                    due("undo()", x.undo(), -3);
                } else {
                    world = row.remove(row.size() - 1);
                    due("undo()", x.undo(), row.size());
                }
            }
        }

        void keep(int slot) {
            if (slot < 0 || slot > 1) {
                due("keep(" + slot + ")", x.keep(slot), -1);
            } else {
                slots[slot] = world.copy();
                due("keep(" + slot + ")", x.keep(slot), world.day);
            }
        }

        void again(int slot) {
            if (slot < 0 || slot > 1) {
                due("again(" + slot + ")", x.again(slot), -1);
            } else if (slots[slot] == null) {
                due("again(" + slot + ")", x.again(slot), -3);
            } else {
                world = slots[slot].copy();
                row.clear();
                due("again(" + slot + ")", x.again(slot), world.day);
            }
        }

        void look() {
            lookAtCounts();
            for (int p = 0; p < world.people.size(); p++) {
                lookAtPerson(p);
            }
            for (int l = 0; l < world.loaves.size(); l++) {
                lookAtLoaf(l);
            }
        }

        void lookAtSome() {
            int what = draw(3);
            if (what == 0) {
                lookAtCounts();
            } else if (what == 1 && !world.people.isEmpty()) {
                lookAtPerson(draw(world.people.size()));
            } else if (!world.loaves.isEmpty()) {
                lookAtLoaf(draw(world.loaves.size()));
            }
        }

        void lookAtCounts() {
            due("count(0)", x.count(0), text.length());
            due("count(1)", x.count(1), world.people.size());
            due("count(2)", x.count(2), world.loaves.size());
            due("count(3)", x.count(3), world.alive().stream().mapToInt(p -> 1 << p).sum());
            due("count(4)", x.count(4), world.day);
            due("count(5)", x.count(5), world.loaves.stream().filter(l -> l.where == 20).count());
            due("count(6)", x.count(6), world.loaves.stream().filter(l -> l.where != 20 && !world.good(l)).count());
            due("count(7)", x.count(7), row.size());
            due("count(8)", x.count(8), world.missing().size());
            due("count(9)", x.count(9), world.law);
        }

        void lookAtLoaf(int l) {
            Loaf loaf = world.loaves.get(l);
            due("loaf(" + l + ", 0)", x.loaf(l, 0), loaf.number);
            due("loaf(" + l + ", 1)", x.loaf(l, 1), loaf.where);
            due("loaf(" + l + ", 2)", x.loaf(l, 2), loaf.age);
            due("loaf(" + l + ", 3)", x.loaf(l, 3), world.good(loaf) ? 0 : 1);
            due("loaf(" + l + ", 4)", x.loaf(l, 4), loaf.by);
            due("loaf(" + l + ", 5)", x.loaf(l, 5), loaf.on);
        }

        void lookAtPerson(int p) {
            Person person = world.people.get(p);
            int held = 0;
            for (int l = 0; l < world.loaves.size(); l++) {
                held += world.loaves.get(l).where == p ? 1 << l : 0;
                due("may(" + p + ", " + l + ")", x.may(p, l), world.may(p, l) ? 1 : 0);
            }
            due("person(" + p + ", 0)", x.person(p, 0), person.fasted);
            due("person(" + p + ", 1)", x.person(p, 1), person.alive ? 1 : 0);
            due("person(" + p + ", 2)", x.person(p, 2), person.ate ? 1 : 0);
            due("person(" + p + ", 3)", x.person(p, 3), held);
            due("person(" + p + ", 4)", x.person(p, 4), person.meals);
        }

        void lookAhead() {
            int[] lasts = world.lasts();
            due("lasts()", x.lasts(), lasts[0]);
            due("first()", x.first(), lasts[1]);
            due("best()", x.best(), world.best());
            List<Integer> missing = world.missing();
            for (int i : new int[] {-1, 0, draw(missing.size() + 1), missing.size() - 1, missing.size()}) {
                due("missing(" + i + ")", x.missing(i), i < 0 || i >= missing.size() ? -9 : missing.get(i));
            }
            int tenths = draw(11);
            if (lasts[0] == 0) {
                due("help(" + tenths + ", true)", x.help(tenths, true), -3);
                return;
            }
            int days = Math.min(lasts[0] < 0 ? 199 : lasts[0] - 1, 18);
            BigInteger below = BigInteger.TEN.pow(days);
            BigInteger above = below.subtract(BigInteger.valueOf(10 - tenths).pow(days));
            BigInteger divisor = below.gcd(above);
            due("help(" + tenths + ", true)", x.help(tenths, true), above.divide(divisor).longValueExact());
            due("help(" + tenths + ", false)", x.help(tenths, false), below.divide(divisor).longValueExact());
        }
    }
}
