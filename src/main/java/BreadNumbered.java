/**
 * Bread with a number: a siege in which each loaf has a number by which it is to be eaten. The
 * document's words are kept for what they name: people, loaves, the priest, acts, the law.
 *
 * <p>All rows are made in the constructor and used again; no later call makes an object.
 */
public final class BreadNumbered {
    public static final int UNKNOWN = -1, OUTSIDE = -2, STATE = -3, FULL = -4, NONE = -9;

    private static final int TEXT_BYTES = 80;
    private static final int MOST_PEOPLE = 5;
    private static final int MOST_LOAVES = 10;
    private static final int MOST_PARTS = MOST_PEOPLE + MOST_LOAVES;
    private static final int MOST_ACTS = 20;
    private static final int SLOTS = 2;

    private static final int PRIEST = 10;
    private static final int EATEN = 20;
    private static final int OLDEST = 99;

    private static final int DAYS_LOOKED_AHEAD = 200;
    private static final int DAYS_OF_HELP = 18;
    private static final int MOST_AT_BEST = 3;

    private static final long SEED_FACTOR = 6364136223846793005L;
    private static final long SEED_STEP = 1442695040888963407L;
    private static final int UPPER_31_BITS = 33;

    private final Text text = new Text();
    private final Siege now = new Siege();
    // What is tried out: a text that may be no siege, the days that lie ahead.
    private final Siege spare = new Siege();

    // A ring: the row of acts begins at firstAct; each entry is all as it was ahead of the act.
    private final Siege[] acts = new Siege[MOST_ACTS];
    private int firstAct = 0;
    private int actCount = 0;

    private final Siege[] slots = new Siege[SLOTS];
    private final boolean[] isKept = new boolean[SLOTS];

    public BreadNumbered() {
        for (int act = 0; act < MOST_ACTS; act++) {
            acts[act] = new Siege();
        }
        for (int slot = 0; slot < SLOTS; slot++) {
            slots[slot] = new Siege();
        }
    }

    // ---- the siege

    public int write(int n, long v) {
        if (n < 1 || n > 8) {
            return OUTSIDE;
        }
        if (text.length + n > TEXT_BYTES) {
            return FULL;
        }
        for (int left = n - 1; left >= 0; left--) {
            text.append((int) (v >>> (8 * left)) & 255);
        }
        return text.length;
    }

    public int wipe() {
        int length = text.length;
        text.length = 0;
        return length;
    }

    public int fault() {
        return text.readInto(spare);
    }

    public int siege() {
        if (text.readInto(spare) != NONE) {
            return STATE;
        }
        spare.seed = now.seed;
        now.becomes(spare);
        forgetActs();
        for (int slot = 0; slot < SLOTS; slot++) {
            isKept[slot] = false;
        }
        return 100 * now.people + now.loaves;
    }

    public int person(int person, int what) {
        if (!now.hasPerson(person)) {
            return UNKNOWN;
        }
        switch (what) {
            case 0: return now.fasted[person];
            case 1: return now.isAlive(person) ? 1 : 0;
            case 2: return now.ateToday[person] ? 1 : 0;
            case 3: return now.heldBits(person);
            case 4: return now.eatenCount[person];
            default: return OUTSIDE;
        }
    }

    public int loaf(int loaf, int what) {
        if (!now.hasLoaf(loaf)) {
            return UNKNOWN;
        }
        switch (what) {
            case 0: return now.number[loaf];
            case 1: return now.holder[loaf];
            case 2: return now.age[loaf];
            case 3: return now.isBad(loaf) ? 1 : 0;
            case 4: return now.eater[loaf];
            case 5: return now.eatenOn[loaf];
            default: return OUTSIDE;
        }
    }

    // ---- acts

    public int may(int person, int loaf) {
        if (!now.hasPerson(person) || !now.hasLoaf(loaf)) {
            return UNKNOWN;
        }
        return now.isAllowed(person, loaf) ? 1 : 0;
    }

    public int eat(int person, int loaf) {
        if (!now.hasPerson(person) || !now.hasLoaf(loaf)) {
            return UNKNOWN;
        }
        if (!now.isAllowed(person, loaf)) {
            return STATE;
        }
        rememberAct();
        now.feed(person, loaf);
        return now.number[loaf];
    }

    public int give(int loaf, int person) {
        if (!now.hasLoaf(loaf) || (person != PRIEST && !now.hasPerson(person))) {
            return UNKNOWN;
        }
        int holder = now.holder[loaf];
        if (holder == EATEN || holder == person || (person != PRIEST && !now.isAlive(person))) {
            return STATE;
        }
        rememberAct();
        now.holder[loaf] = person;
        return holder;
    }

    public int cut(int loaf) {
        if (!now.hasLoaf(loaf)) {
            return UNKNOWN;
        }
        if (now.holder[loaf] == EATEN || !hasNine(now.number[loaf])) {
            return STATE;
        }
        rememberAct();
        now.number[loaf] = whenCut(now.number[loaf]);
        return now.number[loaf];
    }

    public int day() {
        rememberAct();
        return now.passDay();
    }

    public int night() {
        int alive = now.aliveCount();
        if (alive == 0) {
            return NONE;
        }
        rememberAct();
        now.seed = now.seed * SEED_FACTOR + SEED_STEP;
        int drawn = (int) (now.seed >>> UPPER_31_BITS);
        int thief = now.aliveAt(drawn % alive);
        int others = now.heldByOthersCount(thief);
        int loaf = others == 0 ? NONE : now.heldByOthersAt(thief, (drawn / alive) % others);
        if (loaf < 0) {
            return NONE;
        }
        now.holder[loaf] = thief;
        return 10 * thief + loaf;
    }

    public int undo() {
        if (actCount == 0) {
            return STATE;
        }
        actCount--;
        now.becomes(acts[(firstAct + actCount) % MOST_ACTS]);
        return actCount;
    }

    public long seed(long v) {
        long before = now.seed;
        now.seed = v;
        return before;
    }

    // ---- how long

    public int lasts() {
        return daysUntilDeath();
    }

    public int first() {
        if (daysUntilDeath() <= 0) {
            return NONE;
        }
        for (int person = 0; person < now.people; person++) {
            if (now.isAlive(person) && !spare.isAlive(person)) {
                return person;
            }
        }
        return NONE;
    }

    public int best() {
        int alive = now.aliveCount();
        if (alive == 0 || alive > MOST_AT_BEST) {
            return STATE;
        }
        int days = 0;
        while (days < DAYS_LOOKED_AHEAD && now.canAllLive(days + 1)) {
            days++;
        }
        return days;
    }

    // ---- numbers, help

    public int missing(int i) {
        int greatest = now.greatestNumber();
        int seen = 0;
        for (int number = 1; number < greatest; number++) {
            if (!now.hasNumber(number)) {
                if (seen == i) {
                    return number;
                }
                seen++;
            }
        }
        return NONE;
    }

    public int forged(int v, int n, int x, boolean upper) {
        if (v < 1 || v > 99 || n < 1 || n > 99 || x < 0 || x > 10) {
            return OUTSIDE;
        }
        int wereCut = 0;
        for (int number = 1; number <= n; number++) {
            if (hasNine(number) && whenCut(number) == v) {
                wereCut += x;
            }
        }
        int haveIt = wereCut;
        if (v <= n) {
            haveIt += hasNine(v) ? 10 - x : 10;
        }
        if (haveIt == 0) {
            return STATE;
        }
        return (int) partInLeastTerms(wereCut, haveIt, upper);
    }

    public long help(int x, boolean upper) {
        if (x < 0 || x > 10) {
            return OUTSIDE;
        }
        if (now.aliveCount() == 0) {
            return STATE;
        }
        int lasting = daysUntilDeath();
        int days = lasting == NONE ? DAYS_LOOKED_AHEAD - 1 : lasting - 1;
        long all = 1;
        long withoutHelp = 1;
        // 18 days at most: ten to the 18th is the greatest power of ten that a long holds.
        for (int day = 0; day < days && day < DAYS_OF_HELP; day++) {
            all *= 10;
            withoutHelp *= 10 - x;
        }
        return partInLeastTerms(all - withoutHelp, all, upper);
    }

    // ---- slots

    public int keep(int slot) {
        if (slot < 0 || slot >= SLOTS) {
            return UNKNOWN;
        }
        slots[slot].becomes(now);
        isKept[slot] = true;
        return now.day;
    }

    public int again(int slot) {
        if (slot < 0 || slot >= SLOTS) {
            return UNKNOWN;
        }
        if (!isKept[slot]) {
            return STATE;
        }
        now.becomes(slots[slot]);
        forgetActs();
        return now.day;
    }

    public int count(int what) {
        switch (what) {
            case 0: return text.length;
            case 1: return now.people;
            case 2: return now.loaves;
            case 3: return now.aliveBits();
            case 4: return now.day;
            case 5: return now.eatenLoaves();
            case 6: return now.badLoaves();
            case 7: return actCount;
            case 8: return now.missingCount();
            case 9: return now.law;
            default: return OUTSIDE;
        }
    }

    // ---- what the calls share

    private void rememberAct() {
        if (actCount == MOST_ACTS) {
            firstAct = (firstAct + 1) % MOST_ACTS;
            actCount--;
        }
        acts[(firstAct + actCount) % MOST_ACTS].becomes(now);
        actCount++;
    }

    private void forgetActs() {
        firstAct = 0;
        actCount = 0;
    }

    /** LASTS; spare is then as all is behind the day in which somebody died. */
    private int daysUntilDeath() {
        if (now.aliveCount() == 0) {
            return 0;
        }
        spare.becomes(now);
        for (int days = 1; days <= DAYS_LOOKED_AHEAD; days++) {
            spare.eatAsItIs();
            if (spare.passDay() != 0) {
                return days;
            }
        }
        return NONE;
    }

    private static boolean hasNine(int number) {
        return number / 10 == 9 || number % 10 == 9;
    }

    private static int whenCut(int number) {
        return number / 10 == 9 ? number - 30 : number - 3;
    }

    private static long partInLeastTerms(long above, long below, boolean upper) {
        long divisor = greatestDivisor(above, below);
        if (divisor == 0) {
            return NONE;
        }
        return upper ? above / divisor : below / divisor;
    }

    private static long greatestDivisor(long one, long other) {
        // Euclid needs fewer than a hundred steps for any two longs.
        for (int step = 0; step < 200 && other != 0; step++) {
            long rest = one % other;
            one = other;
            other = rest;
        }
        return one;
    }

    /** THE TEXT, and how it is read: place goes from byte to byte and stays at the first fault. */
    private static final class Text {
        final int[] bytes = new int[TEXT_BYTES];
        int length = 0;
        int place = 0;

        void append(int b) {
            if (length < TEXT_BYTES) {
                bytes[length] = b;
                length++;
            }
        }

        /** FAULT; if it is NONE, the siege is what the text tells. */
        int readInto(Siege siege) {
            place = 0;
            if (!readRules(siege)) {
                return place;
            }
            for (int part = 0; part < MOST_PARTS && place < length; part++) {
                boolean isRead = isSignHere('P') ? readPerson(siege) : readLoaf(siege);
                if (!isRead) {
                    return place;
                }
            }
            return place < length ? place : NONE;
        }

        private boolean readRules(Siege siege) {
            if (!readSign('S')) {
                return false;
            }
            int law = readFigure(0, 2);
            int lives = law < 0 ? NONE : readFigure(1, 9);
            int badAt = lives < 0 ? NONE : readFigure(1, 9);
            if (badAt < 0) {
                return false;
            }
            siege.begin(law, lives, badAt);
            return true;
        }

        private boolean readPerson(Siege siege) {
            if (siege.people >= MOST_PEOPLE || !readSign('P')) {
                return false;
            }
            int fasted = readFigure(0, siege.lives);
            if (fasted < 0) {
                return false;
            }
            siege.addPerson(fasted);
            return true;
        }

        private boolean readLoaf(Siege siege) {
            // Without people no loaf can be told to its end, so its first byte is the fault.
            if (siege.people == 0 || siege.loaves >= MOST_LOAVES || !readSign('L')) {
                return false;
            }
            int number = readNumber(siege);
            int holder = number < 0 ? NONE : readFigure(0, siege.people - 1);
            int age = holder < 0 ? NONE : readFigure(0, 9);
            if (age < 0) {
                return false;
            }
            siege.addLoaf(number, holder, age);
            return true;
        }

        private int readNumber(Siege siege) {
            int tens = figureHere();
            if (tens < 0 || !hasFreeNumber(siege, tens)) {
                return NONE;
            }
            place++;
            int units = figureHere();
            if (units < 0 || !isFree(siege, 10 * tens + units)) {
                return NONE;
            }
            place++;
            return 10 * tens + units;
        }

        private static boolean hasFreeNumber(Siege siege, int tens) {
            for (int units = 0; units <= 9; units++) {
                if (isFree(siege, 10 * tens + units)) {
                    return true;
                }
            }
            return false;
        }

        private static boolean isFree(Siege siege, int number) {
            return number >= 1 && !siege.hasNumber(number);
        }

        private boolean readSign(char sign) {
            if (!isSignHere(sign)) {
                return false;
            }
            place++;
            return true;
        }

        private boolean isSignHere(char sign) {
            return place < length && bytes[place] == sign;
        }

        private int readFigure(int least, int most) {
            int figure = figureHere();
            if (figure < least || figure > most) {
                return NONE;
            }
            place++;
            return figure;
        }

        private int figureHere() {
            if (place >= length || bytes[place] < '0' || bytes[place] > '9') {
                return NONE;
            }
            return bytes[place] - '0';
        }
    }

    /** The rules, the people, the loaves, the day and the seed: all that an act can change. */
    private static final class Siege {
        int law = 0;
        int lives = 9;
        int badAt = 9;
        int day = 0;
        long seed = 0;

        int people = 0;
        final int[] fasted = new int[MOST_PEOPLE];
        final boolean[] ateToday = new boolean[MOST_PEOPLE];
        final int[] eatenCount = new int[MOST_PEOPLE];

        int loaves = 0;
        final int[] number = new int[MOST_LOAVES];
        final int[] holder = new int[MOST_LOAVES];
        final int[] age = new int[MOST_LOAVES];
        final int[] eater = new int[MOST_LOAVES];
        final int[] eatenOn = new int[MOST_LOAVES];

        void begin(int itsLaw, int itsLives, int itsBadAt) {
            law = itsLaw;
            lives = itsLives;
            badAt = itsBadAt;
            day = 0;
            people = 0;
            loaves = 0;
        }

        void addPerson(int itsFasted) {
            if (people < MOST_PEOPLE) {
                fasted[people] = itsFasted;
                ateToday[people] = false;
                eatenCount[people] = 0;
                people++;
            }
        }

        void addLoaf(int itsNumber, int itsHolder, int itsAge) {
            if (loaves < MOST_LOAVES) {
                number[loaves] = itsNumber;
                holder[loaves] = itsHolder;
                age[loaves] = itsAge;
                eater[loaves] = NONE;
                eatenOn[loaves] = NONE;
                loaves++;
            }
        }

        void becomes(Siege other) {
            law = other.law;
            lives = other.lives;
            badAt = other.badAt;
            day = other.day;
            seed = other.seed;
            people = other.people;
            System.arraycopy(other.fasted, 0, fasted, 0, MOST_PEOPLE);
            System.arraycopy(other.eatenCount, 0, eatenCount, 0, MOST_PEOPLE);
            for (int person = 0; person < MOST_PEOPLE; person++) {
                ateToday[person] = other.ateToday[person];
            }
            loaves = other.loaves;
            System.arraycopy(other.number, 0, number, 0, MOST_LOAVES);
            System.arraycopy(other.holder, 0, holder, 0, MOST_LOAVES);
            System.arraycopy(other.age, 0, age, 0, MOST_LOAVES);
            System.arraycopy(other.eater, 0, eater, 0, MOST_LOAVES);
            System.arraycopy(other.eatenOn, 0, eatenOn, 0, MOST_LOAVES);
        }

        boolean hasPerson(int person) {
            return person >= 0 && person < people;
        }

        boolean hasLoaf(int loaf) {
            return loaf >= 0 && loaf < loaves;
        }

        boolean isAlive(int person) {
            return fasted[person] <= lives;
        }

        boolean isBad(int loaf) {
            return age[loaf] >= badAt;
        }

        boolean isHeldByAnyone(int loaf) {
            return holder[loaf] < PRIEST;
        }

        int aliveBits() {
            int bits = 0;
            for (int person = 0; person < people; person++) {
                if (isAlive(person)) {
                    bits |= 1 << person;
                }
            }
            return bits;
        }

        int aliveCount() {
            return Integer.bitCount(aliveBits());
        }

        /** The living person that so many living ones are told ahead of; NONE. */
        int aliveAt(int ahead) {
            int left = ahead;
            for (int person = 0; person < people; person++) {
                if (isAlive(person)) {
                    if (left == 0) {
                        return person;
                    }
                    left--;
                }
            }
            return NONE;
        }

        int heldBits(int person) {
            int bits = 0;
            for (int loaf = 0; loaf < loaves; loaf++) {
                if (holder[loaf] == person) {
                    bits |= 1 << loaf;
                }
            }
            return bits;
        }

        /** The dead hold nothing, so whoever holds a loaf is alive. */
        boolean isHeldByOthers(int loaf, int person) {
            return isHeldByAnyone(loaf) && holder[loaf] != person;
        }

        int heldByOthersCount(int person) {
            int held = 0;
            for (int loaf = 0; loaf < loaves; loaf++) {
                if (isHeldByOthers(loaf, person)) {
                    held++;
                }
            }
            return held;
        }

        int heldByOthersAt(int person, int ahead) {
            int left = ahead;
            for (int loaf = 0; loaf < loaves; loaf++) {
                if (isHeldByOthers(loaf, person)) {
                    if (left == 0) {
                        return loaf;
                    }
                    left--;
                }
            }
            return NONE;
        }

        int eatenLoaves() {
            int eaten = 0;
            for (int loaf = 0; loaf < loaves; loaf++) {
                if (holder[loaf] == EATEN) {
                    eaten++;
                }
            }
            return eaten;
        }

        int badLoaves() {
            int bad = 0;
            for (int loaf = 0; loaf < loaves; loaf++) {
                if (holder[loaf] != EATEN && isBad(loaf)) {
                    bad++;
                }
            }
            return bad;
        }

        boolean hasNumber(int wanted) {
            for (int loaf = 0; loaf < loaves; loaf++) {
                if (number[loaf] == wanted) {
                    return true;
                }
            }
            return false;
        }

        int greatestNumber() {
            int greatest = 0;
            for (int loaf = 0; loaf < loaves; loaf++) {
                greatest = Math.max(greatest, number[loaf]);
            }
            return greatest;
        }

        int missingCount() {
            int greatest = greatestNumber();
            int missing = 0;
            for (int wanted = 1; wanted < greatest; wanted++) {
                if (!hasNumber(wanted)) {
                    missing++;
                }
            }
            return missing;
        }

        boolean isAllowed(int person, int loaf) {
            return isAlive(person) && !ateToday[person] && holder[loaf] == person
                    && !isBad(loaf) && !lawForbids(person, number[loaf]);
        }

        private boolean lawForbids(int person, int wanted) {
            for (int loaf = 0; loaf < loaves; loaf++) {
                boolean counts = law == 0 && holder[loaf] == person
                        || law == 1 && isHeldByAnyone(loaf);
                if (counts && number[loaf] < wanted && !isBad(loaf)) {
                    return true;
                }
            }
            return false;
        }

        void feed(int person, int loaf) {
            fasted[person] = 0;
            ateToday[person] = true;
            eatenCount[person]++;
            holder[loaf] = EATEN;
            eater[loaf] = person;
            eatenOn[loaf] = day;
        }

        /** A DAY goes by: who died in it, as bits. */
        int passDay() {
            int died = 0;
            for (int person = 0; person < people; person++) {
                if (isAlive(person) && !ateToday[person]) {
                    fasted[person]++;
                    if (!isAlive(person)) {
                        died |= 1 << person;
                        leaveToPriest(person);
                    }
                }
                ateToday[person] = false;
            }
            for (int loaf = 0; loaf < loaves; loaf++) {
                if (holder[loaf] != EATEN) {
                    age[loaf] = Math.min(age[loaf] + 1, OLDEST);
                }
            }
            day++;
            return died;
        }

        private void leaveToPriest(int person) {
            for (int loaf = 0; loaf < loaves; loaf++) {
                if (holder[loaf] == person) {
                    holder[loaf] = PRIEST;
                }
            }
        }

        void eatAsItIs() {
            for (int person = 0; person < people; person++) {
                int loaf = leastAllowed(person);
                if (loaf >= 0) {
                    feed(person, loaf);
                }
            }
        }

        private int leastAllowed(int person) {
            int least = NONE;
            for (int loaf = 0; loaf < loaves; loaf++) {
                if (isAllowed(person, loaf) && (least < 0 || number[loaf] < number[least])) {
                    least = loaf;
                }
            }
            return least;
        }

        /**
         * Whether all that are alive can live so many days more. Bread is never better later, so
         * each meal is laid as early as the days allow; then the loaves are enough if, for each
         * day, as many are good on it as meals are due on it or later.
         */
        boolean canAllLive(int days) {
            int lastMeal = days - lives - 1;
            for (int from = 0; from <= Math.max(lastMeal, 0); from++) {
                if (mealsDue(lastMeal, from) > loavesGoodOn(from)) {
                    return false;
                }
            }
            return true;
        }

        /** Meals on a day (from 0, today) or later, if the last one of each is on lastMeal. */
        private int mealsDue(int lastMeal, int from) {
            int due = 0;
            for (int person = 0; person < people; person++) {
                if (isAlive(person)) {
                    int fedOn = ateToday[person] ? 0 : -1 - fasted[person];
                    int meal = lastMeal;
                    for (int meals = 0; meals < DAYS_LOOKED_AHEAD && meal > fedOn; meals++) {
                        if (Math.max(meal, 0) >= from) {
                            due++;
                        }
                        meal -= lives + 1;
                    }
                }
            }
            return due;
        }

        private int loavesGoodOn(int dayAhead) {
            int good = 0;
            for (int loaf = 0; loaf < loaves; loaf++) {
                if (isHeldByAnyone(loaf) && age[loaf] + dayAhead < badAt) {
                    good++;
                }
            }
            return good;
        }
    }
}
