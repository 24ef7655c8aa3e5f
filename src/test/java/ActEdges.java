import java.math.BigInteger;
import java.util.ArrayList;
import java.util.List;

/** The edges of PEOPLE, LOAVES and ACTS: a test for each sentence that names one. Promises 6 to 15. */
public final class ActEdges {
    private static final int UNKNOWN = Due.UNKNOWN, OUTSIDE = Due.OUTSIDE, STATE = Due.STATE, NONE = Due.NONE;
    private static final int PRIEST = Due.PRIEST, EATEN = Due.EATEN;
    private static final int[] ODD = {-1, -9, 11, 15, 16, 20, 256, Integer.MIN_VALUE, Integer.MAX_VALUE};

    public static void main(String[] args) throws Exception {
        askedOfAPerson();
        askedOfALoaf();
        personUnknown();
        loafUnknown();
        heldBy();
        isBad();
        aliveMayEat();
        holdsIt();
        notBad();
        onceADay();
        law0();
        law1();
        law2();
        mayUnknown();
        fastedNone();
        eatenItsNumber();
        eatRefused();
        notEatenCanBeGiven();
        toOneAlive();
        whoHeldIt();
        giveRefused();
        firstFigureNine();
        alikeThen();
        cutRefused();
        fastedOneMore();
        fastedMoreThanLives();
        loavesToThePriest();
        aDayOlder();
        ninetyNineDays();
        whoDied();
        seedBecomes();
        upperBits();
        thiefAmongAlive();
        loafByNumber();
        nothingButTheSeed();
        notEvenThat();
        thiefAndLoaf();
        actAllTheSame();
        twentyActs();
        lastUndone();
        seedUndone();
        howManyLeft();
        noneToUndo();
        seedWas();
        Due.end("ActEdges");
    }

    // ---- promises 6 and 7

    private static void askedOfAPerson() throws Exception {
        Due.sentence("Of a PERSON how many days it has fasted (what = 0), whether it is alive (1: 1, 0), "
                + "whether it did EAT today (2), LOAVES that it holds, as bits (3), how many it did EAT (4).");
        BreadNumbered x = Due.sieged("S219P1P1L0100L1110L2000L3000L4000L5000L6000L7000L8000L9000");
        Due.due("person(0, 3)", x.person(0, 3), 1023 - 2);
        Due.due("person(1, 3)", x.person(1, 3), 2);
        for (int loaf = 9; loaf >= 2; loaf--) {
            x.eat(0, loaf);
            Due.due("person(0, 0) did eat", x.person(0, 0), 0);
            Due.due("person(0, 1)", x.person(0, 1), 1);
            Due.due("person(0, 2)", x.person(0, 2), 1);
            Due.due("person(0, 3)", x.person(0, 3), (1 << loaf) - 1 - 2);
            Due.due("person(0, 4)", x.person(0, 4), 10 - loaf);
            x.day();
            Due.due("person(0, 0) behind the day", x.person(0, 0), 0);
            Due.due("person(0, 2) behind the day", x.person(0, 2), 0);
        }
        int[] dead = {2, 0, 0, 0, 0};
        for (int what = 0; what <= 4; what++) {
            Due.due("person(1, " + what + ") of the dead", x.person(1, what), dead[what]);
        }
    }

    private static void askedOfALoaf() throws Exception {
        Due.sentence("Of a LOAF its NUMBER (what = 0), who holds it (1; 10 THE PRIEST, 20 it is EATEN), "
                + "how old it is (2; as it was when it was EATEN), whether it is BAD (3: 1, 0), "
                + "who did EAT it (4; NONE), on which DAY (5; NONE).");
        BreadNumbered x = Due.sieged("S296P0P0P0P0P0L9945L0103");
        loafDue(x, 0, 99, 4, 5, 0, NONE, NONE);
        x.day();
        loafDue(x, 0, 99, 4, 6, 1, NONE, NONE);
        x.give(0, PRIEST);
        loafDue(x, 0, 99, PRIEST, 6, 1, NONE, NONE);
        x.day();
        loafDue(x, 1, 1, 0, 5, 0, NONE, NONE);
        x.eat(0, 1);
        loafDue(x, 1, 1, EATEN, 5, 0, 0, 2);
        x.day();
        x.day();
        loafDue(x, 1, 1, EATEN, 5, 0, 0, 2);
        BreadNumbered first = Due.sieged("S296P0P0P0P0P0L9940");
        first.eat(4, 0);
        loafDue(first, 0, 99, EATEN, 0, 0, 4, 0);
    }

    private static void loafDue(BreadNumbered x, int loaf, int... want) {
        for (int what = 0; what < want.length; what++) {
            Due.due("loaf(" + loaf + ", " + what + ")", x.loaf(loaf, what), want[what]);
        }
    }

    private static void personUnknown() throws Exception {
        Due.sentence("how many it did EAT (4). UNKNOWN; OUTSIDE.");
        for (int people = 0; people <= 5; people++) {
            BreadNumbered x = Due.sieged("S055" + "P3".repeat(people));
            for (int person = 0; person <= 5; person++) {
                for (int what = -1; what <= 5; what++) {
                    int want = person >= people ? UNKNOWN : what < 0 || what > 4 ? OUTSIDE : what == 0 ? 3 : what == 1 ? 1 : 0;
                    Due.due("person(" + person + ", " + what + ") of " + people, x.person(person, what), want);
                }
            }
        }
        BreadNumbered x = Due.sieged("S055P3");
        for (int odd : ODD) {
            Due.due("person(" + odd + ", 0)", x.person(odd, 0), UNKNOWN);
            Due.due("person(0, " + odd + ")", x.person(0, odd), OUTSIDE);
            Due.due("person(" + odd + ", 5)", x.person(odd, 5), UNKNOWN);
        }
    }

    private static void loafUnknown() throws Exception {
        Due.sentence("on which DAY (5; NONE). UNKNOWN; OUTSIDE.");
        for (int loaves = 0; loaves <= 10; loaves++) {
            BreadNumbered x = Due.sieged(Due.GREATEST.substring(0, 14 + 5 * loaves));
            for (int loaf = 0; loaf <= 10; loaf++) {
                int want = loaf < loaves ? loaf : UNKNOWN;
                Due.due("loaf(" + loaf + ", 2) of " + loaves, x.loaf(loaf, 2), loaf == 9 && loaves == 10 ? 9 : want);
                Due.due("loaf(" + loaf + ", -1) of " + loaves, x.loaf(loaf, -1), loaf < loaves ? OUTSIDE : UNKNOWN);
                Due.due("loaf(" + loaf + ", 6) of " + loaves, x.loaf(loaf, 6), loaf < loaves ? OUTSIDE : UNKNOWN);
            }
            Due.due("loaf(-1, 0) of " + loaves, x.loaf(-1, 0), UNKNOWN);
        }
        BreadNumbered x = Due.sieged("S055P3L0100");
        for (int odd : ODD) {
            Due.due("loaf(" + odd + ", 0)", x.loaf(odd, 0), UNKNOWN);
            Due.due("loaf(0, " + odd + ")", x.loaf(0, odd), OUTSIDE);
            Due.due("loaf(" + odd + ", 6)", x.loaf(odd, 6), UNKNOWN);
        }
    }

    private static void heldBy() throws Exception {
        Due.sentence("A LOAF is held by a PERSON, with THE PRIEST, or EATEN.");
        BreadNumbered x = Due.sieged("S255P0P0P0P0P0L0100");
        for (int person = 1; person <= 4; person++) {
            x.give(0, person);
            Due.due("loaf(0, 1)", x.loaf(0, 1), person);
            for (int other = 0; other <= 4; other++) {
                Due.due("person(" + other + ", 3)", x.person(other, 3), other == person ? 1 : 0);
            }
        }
        x.give(0, PRIEST);
        Due.due("loaf(0, 1)", x.loaf(0, 1), 10);
        Due.due("person(4, 3)", x.person(4, 3), 0);
        x.give(0, 4);
        x.eat(4, 0);
        Due.due("loaf(0, 1)", x.loaf(0, 1), 20);
        Due.due("person(4, 3)", x.person(4, 3), 0);
    }

    private static void isBad() throws Exception {
        Due.sentence("It is BAD, if it is as many days old as told, or more.");
        for (int badAt = 1; badAt <= 9; badAt++) {
            for (int age = 0; age <= 9; age++) {
                BreadNumbered x = Due.sieged("S29" + badAt + "P0L010" + age);
                Due.due("loaf(0, 3), " + age + " days old, BAD at " + badAt, x.loaf(0, 3), age >= badAt ? 1 : 0);
                Due.due("count(6)", x.count(6), age >= badAt ? 1 : 0);
                x.day();
                Due.due("loaf(0, 3), a day older", x.loaf(0, 3), age + 1 >= badAt ? 1 : 0);
                Due.due("count(6)", x.count(6), age + 1 >= badAt ? 1 : 0);
            }
        }
    }

    // ---- promises 8 and 9

    private static void aliveMayEat() throws Exception {
        Due.sentence("A PERSON that is alive may EAT a LOAF");
        BreadNumbered x = Due.sieged("S212P1P1L0100L0210");
        Due.due("may(0, 0)", x.may(0, 0), 1);
        x.eat(1, 1);
        x.day();
        Due.due("may(0, 0) of the dead", x.may(0, 0), 0);
        Due.due("eat(0, 0) of the dead", x.eat(0, 0), STATE);
        x.give(0, 1);
        Due.due("may(0, 0) of the dead", x.may(0, 0), 0);
        Due.due("may(1, 0) of who has it", x.may(1, 0), 1);
    }

    private static void holdsIt() throws Exception {
        Due.sentence("a LOAF that it holds, that is not BAD");
        BreadNumbered x = Due.sieged("S255P0P0P0P0P0L0100L0210L0320L0430L0540");
        for (int person = 0; person < 5; person++) {
            for (int loaf = 0; loaf < 5; loaf++) {
                Due.due("may(" + person + ", " + loaf + ")", x.may(person, loaf), person == loaf ? 1 : 0);
            }
        }
        x.give(2, PRIEST);
        Due.due("may(2, 2) of the priest's", x.may(2, 2), 0);
        x.eat(3, 3);
        x.day();
        Due.due("may(3, 3) of an eaten one", x.may(3, 3), 0);
    }

    private static void notBad() throws Exception {
        Due.sentence("that is not BAD, once a DAY");
        for (int badAt = 1; badAt <= 9; badAt++) {
            for (int age = 0; age <= 9; age++) {
                for (int law = 0; law <= 2; law++) {
                    BreadNumbered x = Due.sieged("S" + law + "9" + badAt + "P0L010" + age);
                    Due.due("may(0, 0), " + age + " days old, BAD at " + badAt, x.may(0, 0), age < badAt ? 1 : 0);
                    Due.due("eat(0, 0)", x.eat(0, 0), age < badAt ? 1 : STATE);
                }
            }
        }
    }

    private static void onceADay() throws Exception {
        Due.sentence("once a DAY; by LAW 0");
        for (int law = 0; law <= 2; law++) {
            BreadNumbered x = Due.sieged("S" + law + "99P5P5L0100L0200L0310");
            Due.due("eat(0, 0)", x.eat(0, 0), 1);
            Due.due("may(0, 1) on the same day", x.may(0, 1), 0);
            Due.due("eat(0, 1) on the same day", x.eat(0, 1), STATE);
            x.night();
            Due.due("may(0, 1) behind a night", x.may(0, 1), 0);
            x.undo();
            x.day();
            Due.due("may(0, 1) on the next day", x.may(0, 1), 1);
            Due.due("eat(0, 1) on the next day", x.eat(0, 1), 2);
            Due.due("may(1, 2): another's meal is no matter", x.may(1, 2), 1);
        }
    }

    /** Whether PERSON 0 may EAT its 20, told ahead of the other LOAF or behind it. */
    private static void twentyDue(int law, String other, int want) {
        String rules = "S" + law + "55P0P0";
        Due.due("may eat 20 by LAW " + law + " beside " + other, Due.sieged(rules + "L2000" + other).may(0, 0), want);
        Due.due("may eat 20 by LAW " + law + " behind " + other, Due.sieged(rules + other + "L2000").may(0, 1), want);
    }

    private static BreadNumbered alike(int law, int otherHolder) {
        BreadNumbered x = Due.sieged("S" + law + "55P0P0L1600L19" + otherHolder + "0");
        x.cut(1);
        return x;
    }

    private static void law0() throws Exception {
        Due.sentence("by LAW 0 only if it holds none with a lesser NUMBER that is not BAD (of like NUMBERS any)");
        twentyDue(0, "L1900", 0);
        twentyDue(0, "L2100", 1);
        twentyDue(0, "L0100", 0);
        twentyDue(0, "L9900", 1);
        twentyDue(0, "L1904", 0);
        twentyDue(0, "L1905", 1);
        twentyDue(0, "L1909", 1);
        twentyDue(0, "L1910", 1);
        BreadNumbered x = alike(0, 0);
        Due.due("may(0, 0) of like NUMBERS", x.may(0, 0), 1);
        Due.due("may(0, 1) of like NUMBERS", x.may(0, 1), 1);
        x.eat(0, 0);
        x.day();
        Due.due("may(0, 1) beside an eaten one", x.may(0, 1), 1);
        BreadNumbered lesser = Due.sieged("S055P0P0L2000L1900");
        lesser.give(1, PRIEST);
        Due.due("may(0, 0) beside the priest's 19", lesser.may(0, 0), 1);
        lesser.give(1, 0);
        lesser.eat(0, 1);
        lesser.day();
        Due.due("may(0, 0) beside an eaten 19", lesser.may(0, 0), 1);
    }

    private static void law1() throws Exception {
        Due.sentence("by LAW 1 only if no PERSON (it, too) holds such a one");
        for (int holder = 0; holder <= 1; holder++) {
            twentyDue(1, "L19" + holder + "0", 0);
            twentyDue(1, "L21" + holder + "0", 1);
            twentyDue(1, "L01" + holder + "0", 0);
            twentyDue(1, "L99" + holder + "0", 1);
            twentyDue(1, "L19" + holder + "4", 0);
            twentyDue(1, "L19" + holder + "5", 1);
            BreadNumbered x = alike(1, holder);
            Due.due("may(0, 0) of like NUMBERS", x.may(0, 0), 1);
            Due.due("may(" + holder + ", 1) of like NUMBERS", x.may(holder, 1), 1);
        }
        BreadNumbered x = Due.sieged("S155P0P0L2000L1910");
        x.give(1, PRIEST);
        Due.due("may(0, 0) beside the priest's 19", x.may(0, 0), 1);
        x.give(1, 1);
        Due.due("may(0, 0) beside another's 19", x.may(0, 0), 0);
        x.eat(1, 1);
        Due.due("may(0, 0) beside an eaten 19", x.may(0, 0), 1);
        BreadNumbered dead = Due.sieged("S155P0P5L2000L1910");
        dead.day();
        Due.due("may(0, 0) beside a dead one's 19", dead.may(0, 0), 1);
    }

    private static void law2() throws Exception {
        Due.sentence("by LAW 2 any.");
        for (int holder = 0; holder <= 1; holder++) {
            for (String number : new String[] {"01", "19", "21", "99"}) {
                twentyDue(2, "L" + number + holder + "0", 1);
                twentyDue(2, "L" + number + holder + "5", 1);
            }
        }
    }

    private static void mayUnknown() throws Exception {
        Due.sentence("Whether a PERSON may EAT a LOAF: 1, 0. UNKNOWN: person, loaf.");
        for (int people = 0; people <= 5; people++) {
            for (int loaves = 0; loaves <= 10 && (people > 0 || loaves == 0); loaves += 5) {
                String bread = "L0100L0200L0300L0400L0500L0600L0700L0800L0900L1000".substring(0, 5 * loaves);
                BreadNumbered x = Due.sieged("S255" + "P0".repeat(people) + bread);
                for (int person = -1; person <= 5; person++) {
                    for (int loaf = -1; loaf <= 10; loaf++) {
                        boolean isThere = person >= 0 && person < people && loaf >= 0 && loaf < loaves;
                        Due.due("may(" + person + ", " + loaf + ") of " + people + ", " + loaves,
                                x.may(person, loaf), !isThere ? UNKNOWN : person == 0 ? 1 : 0);
                    }
                }
            }
        }
        BreadNumbered x = Due.sieged("S255P0L0100");
        for (int odd : ODD) {
            Due.due("may(" + odd + ", 0)", x.may(odd, 0), UNKNOWN);
            Due.due("may(0, " + odd + ")", x.may(0, odd), UNKNOWN);
        }
    }

    private static void fastedNone() throws Exception {
        Due.sentence("Then it has fasted 0 days.");
        for (int fasted = 0; fasted <= 9; fasted++) {
            BreadNumbered x = Due.sieged("S299P" + fasted + "P9L0100");
            x.eat(0, 0);
            Due.due("person(0, 0)", x.person(0, 0), 0);
            Due.due("person(1, 0) of another", x.person(1, 0), 9);
            Due.due("day()", x.day(), 2);
            Due.due("person(0, 0) behind the day", x.person(0, 0), 0);
            x.day();
            Due.due("person(0, 0) a day later", x.person(0, 0), 1);
        }
    }

    private static void eatenItsNumber() throws Exception {
        Due.sentence("EATEN: its NUMBER.");
        for (String number : new String[] {"01", "09", "10", "98", "99"}) {
            Due.due("eat(0, 0)", Due.sieged("S055P0L" + number + "00").eat(0, 0), Integer.parseInt(number));
        }
        BreadNumbered x = Due.sieged("S055P0L9900");
        x.cut(0);
        Due.due("eat(0, 0) of a cut one", x.eat(0, 0), 69);
        Due.due("eat(0, 0) once more", x.eat(0, 0), STATE);
    }

    private static void eatRefused() throws Exception {
        Due.sentence("UNKNOWN; STATE: it may not be.");
        BreadNumbered x = Due.sieged("S055P0P0L0100L0205L0310L0410");
        Due.due("eat(2, 0)", x.eat(2, 0), UNKNOWN);
        Due.due("eat(0, 4)", x.eat(0, 4), UNKNOWN);
        Due.due("eat(-1, 0)", x.eat(-1, 0), UNKNOWN);
        Due.due("eat(0, -1)", x.eat(0, -1), UNKNOWN);
        for (int odd : ODD) {
            Due.due("eat(" + odd + ", 0)", x.eat(odd, 0), UNKNOWN);
            Due.due("eat(0, " + odd + ")", x.eat(0, odd), UNKNOWN);
        }
        Due.due("eat(0, 1): it is bad", x.eat(0, 1), STATE);
        Due.due("eat(0, 2): another holds it", x.eat(0, 2), STATE);
        Due.due("eat(1, 3): the law", x.eat(1, 3), STATE);
        Due.due("count(7)", x.count(7), 0);
        Due.due("eat(0, 0)", x.eat(0, 0), 1);
        Due.due("eat(0, 0): it is eaten", x.eat(0, 0), STATE);
        x.give(2, 0);
        Due.due("eat(0, 2): once a day", x.eat(0, 2), STATE);
        Due.due("count(7)", x.count(7), 2);
    }

    // ---- promise 10

    private static void notEatenCanBeGiven() throws Exception {
        Due.sentence("A LOAF that is not EATEN can be GIVEN");
        BreadNumbered x = Due.sieged("S255P0P0L0100L0205L0309");
        for (int loaf = 0; loaf <= 2; loaf++) {
            Due.due("give(" + loaf + ", 1), bad ones, too", x.give(loaf, 1), 0);
            Due.due("loaf(" + loaf + ", 1)", x.loaf(loaf, 1), 1);
        }
        x.eat(1, 0);
        for (int to : new int[] {0, 1, PRIEST}) {
            Due.due("give(0, " + to + ") of an eaten one", x.give(0, to), STATE);
        }
        Due.due("loaf(0, 1)", x.loaf(0, 1), EATEN);
    }

    private static void toOneAlive() throws Exception {
        Due.sentence("to a PERSON that is alive, or to THE PRIEST.");
        BreadNumbered x = Due.sieged("S219P0P1P0L0100");
        Due.due("give(0, 1)", x.give(0, 1), 0);
        Due.due("day()", x.day(), 2);
        Due.due("give(0, 1) to the dead", x.give(0, 1), STATE);
        Due.due("give(0, 2)", x.give(0, 2), PRIEST);
        Due.due("give(0, 1) to the dead", x.give(0, 1), STATE);
        Due.due("give(0, PRIEST)", x.give(0, PRIEST), 2);
        Due.due("give(0, 0)", x.give(0, 0), PRIEST);
    }

    private static void whoHeldIt() throws Exception {
        Due.sentence("GIVEN to a PERSON (10: THE PRIEST): who held it.");
        BreadNumbered x = Due.sieged("S255P0P0P0P0P0L0100");
        int holder = 0;
        for (int to : new int[] {1, 2, 3, 4, 10, 4, 3, 10, 0}) {
            Due.due("give(0, " + to + ")", x.give(0, to), holder);
            Due.due("loaf(0, 1)", x.loaf(0, 1), to);
            holder = to;
        }
    }

    private static void giveRefused() throws Exception {
        Due.sentence("UNKNOWN: loaf, person; STATE: it is EATEN, is there, or that one is dead.");
        for (int people = 1; people <= 5; people++) {
            BreadNumbered x = Due.sieged("S255" + "P0".repeat(people) + "L0100");
            for (int to = -1; to <= 21; to++) {
                boolean isThere = to >= 0 && to < people || to == PRIEST;
                int want = !isThere ? UNKNOWN : to == 0 ? STATE : 0;
                Due.due("give(0, " + to + ") of " + people, x.give(0, to), want);
                if (want == 0) {
                    x.undo();
                }
                Due.due("give(1, " + to + ") of " + people, x.give(1, to), UNKNOWN);
                Due.due("give(-1, " + to + ") of " + people, x.give(-1, to), UNKNOWN);
            }
            for (int odd : ODD) {
                Due.due("give(" + odd + ", 0)", x.give(odd, 0), UNKNOWN);
                Due.due("give(0, " + odd + ")", x.give(0, odd), UNKNOWN);
            }
            x.give(0, PRIEST);
            Due.due("give(0, PRIEST): it is there", x.give(0, PRIEST), STATE);
            Due.due("count(7)", x.count(7), 1);
        }
    }

    // ---- promise 11

    private static int whenCut(int number) {
        String figures = String.format("%02d", number);
        return figures.contains("9") ? Integer.parseInt(figures.replaceFirst("9", "6")) : STATE;
    }

    private static void firstFigureNine() throws Exception {
        Due.sentence("CUT, the first figure 9 of its NUMBER is 6");
        for (int number = 1; number <= 99; number++) {
            BreadNumbered x = Due.sieged(String.format("S255P0L%02d00", number));
            int now = number;
            // 99 can be cut twice, and no number more often.
            for (int cut = 1; cut <= 3; cut++) {
                int want = whenCut(now);
                Due.due("cut(0) of " + now, x.cut(0), want);
                now = want > 0 ? want : now;
                Due.due("loaf(0, 0)", x.loaf(0, 0), now);
            }
        }
    }

    private static void alikeThen() throws Exception {
        Due.sentence("(two NUMBERS may be alike then)");
        BreadNumbered x = Due.sieged("S255P0L9600L6900L6600L9900");
        for (int loaf = 0; loaf <= 1; loaf++) {
            Due.due("cut(" + loaf + ")", x.cut(loaf), 66);
        }
        Due.due("cut(3)", x.cut(3), 69);
        Due.due("cut(3)", x.cut(3), 66);
        for (int loaf = 0; loaf <= 3; loaf++) {
            Due.due("loaf(" + loaf + ", 0)", x.loaf(loaf, 0), 66);
        }
        Due.due("count(8)", x.count(8), 65);
    }

    private static void cutRefused() throws Exception {
        Due.sentence("UNKNOWN; STATE: it is EATEN, or has no figure 9.");
        BreadNumbered x = Due.sieged("S255P0P0L0900L8800L1909L2900L3910");
        Due.due("cut(5)", x.cut(5), UNKNOWN);
        Due.due("cut(-1)", x.cut(-1), UNKNOWN);
        for (int odd : ODD) {
            Due.due("cut(" + odd + ")", x.cut(odd), UNKNOWN);
        }
        Due.due("cut(1)", x.cut(1), STATE);
        Due.due("count(7)", x.count(7), 0);
        Due.due("cut(2) of a bad one", x.cut(2), 16);
        x.give(3, PRIEST);
        Due.due("cut(3) of the priest's", x.cut(3), 26);
        Due.due("cut(4) of another's", x.cut(4), 36);
        x.eat(0, 0);
        Due.due("cut(0) of an eaten one", x.cut(0), STATE);
        Due.due("loaf(0, 0)", x.loaf(0, 0), 9);
        Due.due("cut(0) in a new object", new BreadNumbered().cut(0), UNKNOWN);
    }

    // ---- promise 12

    private static void fastedOneMore() throws Exception {
        Due.sentence("A DAY goes by: each PERSON alive that did not EAT in it has fasted one day more");
        BreadNumbered x = Due.sieged("S239P0P1P3P3L0130");
        x.eat(3, 0);
        Due.due("day()", x.day(), 4);
        int[][] fasted = {{1, 2, 4, 0}, {2, 3, 4, 1}, {3, 4, 4, 2}, {4, 4, 4, 3}, {4, 4, 4, 4}, {4, 4, 4, 4}};
        for (int day = 0; day < fasted.length; day++) {
            for (int person = 0; person < 4; person++) {
                Due.due("person(" + person + ", 0) on day " + x.count(4), x.person(person, 0), fasted[day][person]);
            }
            x.day();
        }
    }

    private static void fastedMoreThanLives() throws Exception {
        Due.sentence("who has fasted more days than one LIVES is dead");
        for (int lives = 1; lives <= 9; lives++) {
            for (int fasted = 0; fasted <= lives; fasted++) {
                BreadNumbered x = Due.sieged("S2" + lives + "9P" + fasted);
                for (int now = fasted; now < lives; now++) {
                    Due.due("day()", x.day(), 0);
                    Due.due("person(0, 1), fasted " + (now + 1) + " of " + lives, x.person(0, 1), 1);
                    Due.due("count(3)", x.count(3), 1);
                }
                Due.due("day() of one more", x.day(), 1);
                Due.due("person(0, 1)", x.person(0, 1), 0);
                Due.due("person(0, 0)", x.person(0, 0), lives + 1);
                Due.due("count(3)", x.count(3), 0);
                Due.due("day() of the dead", x.day(), 0);
            }
        }
    }

    private static void loavesToThePriest() throws Exception {
        Due.sentence("its LOAVES are with THE PRIEST");
        BreadNumbered x = Due.sieged("S212P0P0P1L0110L0220L0320L0401L0522L0620");
        x.eat(2, 5);
        x.day();
        Due.due("day() of two", x.day(), 3);
        int[] holders = {PRIEST, 2, 2, PRIEST, 2, EATEN};
        for (int loaf = 0; loaf < 6; loaf++) {
            Due.due("loaf(" + loaf + ", 1)", x.loaf(loaf, 1), holders[loaf]);
        }
        Due.due("day() of the last one", x.day(), 4);
        for (int loaf = 0; loaf < 5; loaf++) {
            Due.due("loaf(" + loaf + ", 1)", x.loaf(loaf, 1), PRIEST);
        }
        Due.due("loaf(5, 1) stays eaten", x.loaf(5, 1), EATEN);
        for (int person = 0; person <= 2; person++) {
            Due.due("person(" + person + ", 3)", x.person(person, 3), 0);
        }
    }

    private static void aDayOlder() throws Exception {
        Due.sentence("all LOAVES (not EATEN ones) are a day older");
        BreadNumbered x = Due.sieged("S255P0P5L0104L0210L0300L0401");
        x.give(3, PRIEST);
        x.eat(0, 0);
        int[][] ages = {{4, 0, 0, 1}, {4, 1, 1, 2}, {4, 2, 2, 3}};
        for (int day = 0; day < ages.length; day++) {
            for (int loaf = 0; loaf < 4; loaf++) {
                Due.due("loaf(" + loaf + ", 2) on day " + day, x.loaf(loaf, 2), ages[day][loaf]);
            }
            x.night();
            Due.due("loaf(2, 2) behind a night", x.loaf(2, 2), ages[day][2]);
            x.undo();
            x.day();
        }
    }

    private static void ninetyNineDays() throws Exception {
        Due.sentence("are a day older (99 at most)");
        BreadNumbered x = Due.sieged("S299P0P9L0109L0210L0305");
        x.eat(0, 2);
        x.give(1, PRIEST);
        for (int day = 1; day <= 102; day++) {
            x.day();
            Due.due("loaf(0, 2) on day " + day, x.loaf(0, 2), Math.min(9 + day, 99));
            Due.due("loaf(1, 2) on day " + day, x.loaf(1, 2), Math.min(day, 99));
        }
        Due.due("loaf(2, 2) of the eaten one", x.loaf(2, 2), 5);
        Due.due("loaf(0, 3)", x.loaf(0, 3), 1);
        Due.due("THE DAY goes on", x.count(4), 102);
    }

    private static void whoDied() throws Exception {
        Due.sentence("A DAY goes by: who died, as bits.");
        for (int dying = 0; dying <= 31; dying++) {
            StringBuilder text = new StringBuilder("S222");
            for (int person = 0; person < 5; person++) {
                text.append((dying >> person & 1) == 1 ? "P2" : "P1");
            }
            BreadNumbered x = Due.sieged(text.toString());
            Due.due("day()", x.day(), dying);
            Due.due("count(3)", x.count(3), 31 - dying);
            Due.due("day() of the others", x.day(), 31 - dying);
            Due.due("day() of nobody", x.day(), 0);
            Due.due("count(4)", x.count(4), 3);
            Due.due("count(7)", x.count(7), 3);
        }
        BreadNumbered nobody = new BreadNumbered();
        Due.due("day() in a new object", nobody.day(), 0);
        Due.due("count(4)", nobody.count(4), 1);
    }

    // ---- promise 13

    private static final BigInteger BITS_64 = BigInteger.ONE.shiftLeft(64);

    private static BigInteger nextSeed(long seed) {
        return BigInteger.valueOf(seed).multiply(new BigInteger("6364136223846793005"))
                .add(new BigInteger("1442695040888963407")).mod(BITS_64);
    }

    /** The SEED that becomes this one. */
    private static long seedAhead(long next) {
        return BigInteger.valueOf(next).subtract(BigInteger.valueOf(Due.STEP))
                .multiply(BigInteger.valueOf(Due.FACTOR).modInverse(BITS_64)).longValue();
    }

    private static void seedBecomes() throws Exception {
        Due.sentence("x (THE SEED, a long; 0 at first) becomes x times 6364136223846793005 "
                + "and 1442695040888963407 (64 bits, wrapping)");
        Due.due("seed at first", Due.seedOf(new BreadNumbered()), 0);
        long[] seeds = {0, 1, 2, -1, -2, Long.MAX_VALUE, Long.MAX_VALUE - 1, Long.MIN_VALUE, Long.MIN_VALUE + 1,
            1L << 32, 1L << 62, 0x5555_5555_5555_5555L};
        for (long seed : seeds) {
            BreadNumbered x = Due.sieged("S255P0");
            x.seed(seed);
            long now = seed;
            for (int night = 1; night <= 5; night++) {
                x.night();
                now = nextSeed(now).longValue();
                Due.due("seed behind night " + night + " from " + seed, Due.seedOf(x), now);
            }
        }
        BreadNumbered first = Due.sieged("S255P0");
        first.night();
        Due.due("seed behind the first night", Due.seedOf(first), 1442695040888963407L);
    }

    private static int nightDue(String text, long seed, int[] alive, int[] heldBy) {
        BigInteger upper = nextSeed(seed).shiftRight(33);
        BigInteger[] parts = upper.divideAndRemainder(BigInteger.valueOf(alive.length));
        int thief = alive[parts[1].intValue()];
        List<Integer> others = new ArrayList<>();
        for (int loaf = 0; loaf < heldBy.length; loaf++) {
            if (heldBy[loaf] != thief && heldBy[loaf] < PRIEST) {
                others.add(loaf);
            }
        }
        int want = others.isEmpty() ? NONE
                : 10 * thief + others.get(parts[0].mod(BigInteger.valueOf(others.size())).intValue());
        BreadNumbered x = Due.sieged(text);
        x.seed(seed);
        Due.due("night() by seed " + seed + " of " + text, x.night(), want);
        for (int loaf = 0; loaf < heldBy.length; loaf++) {
            boolean isStolen = want >= 0 && want % 10 == loaf;
            Due.due("loaf(" + loaf + ", 1)", x.loaf(loaf, 1), isStolen ? thief : heldBy[loaf]);
        }
        return thief;
    }

    /** Seeds that lie far from each other, so that all thieves and loaves are counted. */
    private static long[] seeds(int n) {
        long[] seeds = new long[n];
        for (int i = 0; i < n; i++) {
            seeds[i] = i * 0x9E3779B97F4A7C15L;
        }
        return seeds;
    }

    private static final int[] TWO = {0, 1, 0, 1, 0, 1, 0, 1, 0, 1};
    private static final String OF_TWO = "S299P0P0L0100L1010L2000L3010L4000L5010L6000L7010L8000L9010";

    private static void upperBits() throws Exception {
        Due.sentence("of it the upper 31 bits");
        long[] nexts = {0, 1, -1, Long.MAX_VALUE, Long.MIN_VALUE, (1L << 33) - 1, 1L << 33, (1L << 34) - 1, 1L << 34,
            (1L << 63) - (1L << 33), -(1L << 33), -(1L << 33) - 1, 1L << 32, 3L << 32};
        for (long next : nexts) {
            long seed = seedAhead(next);
            Due.due("the test's own seed", seed * Due.FACTOR + Due.STEP, next);
            nightDue(OF_TWO, seed, new int[] {0, 1}, TWO);
            nightDue("S299P0P0P0P0P0L0100L1010L2020L3030L4040L5000L6010", seed,
                    new int[] {0, 1, 2, 3, 4}, new int[] {0, 1, 2, 3, 4, 0, 1});
        }
    }

    private static void thiefAmongAlive() throws Exception {
        Due.sentence("by how many are alive what is left counts the thief among them");
        for (int alive = 1; alive <= 5; alive++) {
            int thieves = 0;
            for (long seed : seeds(60)) {
                int[] living = {0, 1, 2, 3, 4};
                String text = "S299" + "P0".repeat(alive) + "L0100L1000L2000";
                thieves |= 1 << nightDue(text, seed, java.util.Arrays.copyOf(living, alive), new int[] {0, 0, 0});
            }
            Due.due("each of " + alive + " was the thief", thieves, (1 << alive) - 1);
        }
        for (long seed : seeds(60)) {
            // 0, 2 and 4 are dead, so that the first and the last of those alive are 1 and 3.
            BreadNumbered x = Due.sieged("S219P1P0P1P0P1L0110L1030");
            x.day();
            x.seed(seed);
            int thief = nextSeed(seed).shiftRight(33).testBit(0) ? 3 : 1;
            Due.due("night() among the dead", x.night(), thief == 1 ? 11 : 30);
        }
    }

    private static void loafByNumber() throws Exception {
        Due.sentence("what goes in, by how many LOAVES others hold (alive ones) what is left counts one of these by number");
        for (int loaves = 1; loaves <= 10; loaves++) {
            int[] heldBy = java.util.Arrays.copyOf(TWO, loaves);
            for (long seed : seeds(60)) {
                nightDue(OF_TWO.substring(0, 8 + 5 * loaves), seed, new int[] {0, 1}, heldBy);
                nightDue(OF_TWO.substring(0, 8) + "P0" + OF_TWO.substring(8, 8 + 5 * loaves), seed,
                        new int[] {0, 1, 2}, heldBy);
            }
        }
        for (long seed : seeds(60)) {
            // In the order in which they were told, whatever their NUMBERS are.
            nightDue("S299P0P0L9000L8010L7000L6010L5000L4010L3000L2010L1000L0110", seed, new int[] {0, 1}, TWO);
            nightDue("S299P0P0L5000L6010L4000L7010L3000L8010", seed, new int[] {0, 1}, new int[] {0, 1, 0, 1, 0, 1});
        }
        for (long seed : seeds(60)) {
            // The eaten one and the priest's are none: 1 alone can be stolen by 0, 3 alone by 1.
            BreadNumbered x = Due.sieged("S299P0P0L0100L1010L2010L3000");
            x.eat(0, 0);
            x.give(2, PRIEST);
            x.seed(seed);
            int thief = nextSeed(seed).shiftRight(33).testBit(0) ? 1 : 0;
            Due.due("night() beside an eaten one", x.night(), thief == 0 ? 1 : 13);
        }
    }

    private static void nothingButTheSeed() throws Exception {
        Due.sentence("(Nothing changes but THE SEED, if there is none;");
        for (String text : new String[] {"S255P0", "S255P0L0100", "S255P0P0P0"}) {
            BreadNumbered x = Due.sieged(text);
            BreadNumbered seeded = Due.sieged(text);
            Due.due("night() of " + text, x.night(), NONE);
            Due.due("seed behind it", Due.seedOf(x), Due.STEP);
            // The night is an act, so a row of one act is made in the other object, too.
            x.keep(0);
            x.again(0);
            seeded.seed(Due.STEP);
            seeded.keep(0);
            Due.alike("night() of " + text + " changed something else", x, seeded);
        }
    }

    private static void notEvenThat() throws Exception {
        Due.sentence("if nobody is alive, not even that.)");
        for (String text : new String[] {"S211", "S211P1", "S211P1P1P1L0100"}) {
            Due.Setup setup = () -> {
                BreadNumbered x = Due.sieged(text);
                x.seed(17);
                x.day();
                return x;
            };
            Due.refused(setup, "night() of nobody", x -> x.night(), NONE);
        }
        Due.refused(BreadNumbered::new, "night() in a new object", x -> x.night(), NONE);
    }

    private static void thiefAndLoaf() throws Exception {
        Due.sentence("A NIGHT: 10 times the thief, and the LOAF");
        int least = 49;
        int most = 0;
        for (long seed : seeds(400)) {
            BreadNumbered x = Due.sieged("S299P0P0P0P0P0L0140L0200L0300L0400L0500L0600L0700L0800L0900L1000");
            x.seed(seed);
            int night = x.night();
            least = Math.min(least, night);
            most = Math.max(most, night);
            Due.due("loaf(" + night % 10 + ", 1)", x.loaf(night % 10, 1), night / 10);
        }
        Due.due("the least night(), 0 steals 0", least, 0);
        Due.due("the greatest night(), 4 steals 9", most, 49);
    }

    private static void actAllTheSame() throws Exception {
        Due.sentence("NONE: nothing is stolen (it is an ACT all the same, but where nobody is alive).");
        BreadNumbered x = Due.sieged("S211P1");
        Due.due("night() of one", x.night(), NONE);
        Due.due("count(7)", x.count(7), 1);
        x.day();
        Due.due("night() of nobody", x.night(), NONE);
        Due.due("count(7)", x.count(7), 2);
        Due.due("undo() of the day", x.undo(), 1);
        Due.due("undo() of the night", x.undo(), 0);
        Due.due("seed", Due.seedOf(x), 0);
    }

    // ---- promises 14 and 15

    private static void twentyActs() throws Exception {
        Due.sentence("ACTS (EATEN, GIVEN, CUT, DAYS, NIGHTS) are a row (20 at most; of more the first one is forgotten)");
        for (int acts : new int[] {0, 1, 19, 20, 21, 39, 40, 41, 60}) {
            BreadNumbered x = Due.sieged("S255P0");
            for (int act = 1; act <= acts; act++) {
                x.day();
                Due.due("count(7) behind " + act, x.count(7), Math.min(act, 20));
            }
            int kept = Math.min(acts, 20);
            for (int left = kept - 1; left >= 0; left--) {
                Due.due("undo() behind " + acts, x.undo(), left);
                Due.due("count(4)", x.count(4), acts - kept + left);
            }
            Due.due("undo() of none", x.undo(), STATE);
            Due.due("count(4)", x.count(4), acts - kept);
            x.day();
            Due.due("undo() of a new one", x.undo(), 0);
        }
        BreadNumbered each = Due.sieged("S255P0P0L9900");
        each.cut(0);
        Due.due("count(7) behind cut()", each.count(7), 1);
        each.give(0, 1);
        Due.due("count(7) behind give()", each.count(7), 2);
        each.night();
        Due.due("count(7) behind night()", each.count(7), 3);
        each.eat(each.loaf(0, 1), 0);
        Due.due("count(7) behind eat()", each.count(7), 4);
        each.day();
        Due.due("count(7) behind day()", each.count(7), 5);
        each.seed(5);
        each.keep(0);
        each.wipe();
        each.write(1, 'S');
        Due.due("count(7): no other call is an act", each.count(7), 5);
    }

    private static void lastUndone() throws Exception {
        Due.sentence("the last one can be undone (all is as it was ahead of it");
        Due.Call[] acts = {
            x -> x.eat(1, 1), x -> x.give(1, 0), x -> x.give(0, PRIEST), x -> x.cut(0), x -> x.day(), x -> x.night()
        };
        Due.Setup setup = () -> {
            BreadNumbered x = Due.sieged("S219P1P0L9900L1010L2908");
            x.seed(3);
            x.give(2, PRIEST);
            return x;
        };
        for (int act = 0; act < acts.length; act++) {
            Due.Call done = acts[act];
            Due.onlyAsks(setup, "act " + act + " and undo()", x -> {
                Due.holds("the test's own act is one", done.on(x) >= 0);
                return x.undo();
            });
            Due.onlyAsks(setup, "act " + act + ", a night, a day, and three times undo()", x -> {
                done.on(x);
                x.night();
                x.day();
                return x.undo() + x.undo() + x.undo();
            });
        }
    }

    private static void seedUndone() throws Exception {
        Due.sentence("THE SEED, too, whatever was told since).");
        BreadNumbered x = Due.sieged("S255P0P0L0100");
        x.seed(5);
        x.night();
        x.seed(Long.MIN_VALUE);
        x.day();
        x.seed(7);
        x.undo();
        Due.due("seed ahead of the day", Due.seedOf(x), Long.MIN_VALUE);
        x.seed(8);
        x.undo();
        Due.due("seed ahead of the night", Due.seedOf(x), 5);
        x.seed(9);
        Due.due("undo() of none", x.undo(), STATE);
        Due.due("seed is no act", Due.seedOf(x), 9);
    }

    private static void howManyLeft() throws Exception {
        Due.sentence("The last ACT is undone: how many are left.");
        BreadNumbered x = Due.sieged("S255P0P0L0100");
        x.give(0, 1);
        x.give(0, PRIEST);
        x.give(0, 0);
        Due.due("undo()", x.undo(), 2);
        Due.due("loaf(0, 1)", x.loaf(0, 1), PRIEST);
        x.give(0, 1);
        Due.due("undo() of a new last one", x.undo(), 2);
        Due.due("loaf(0, 1)", x.loaf(0, 1), PRIEST);
        Due.due("undo()", x.undo(), 1);
        Due.due("loaf(0, 1)", x.loaf(0, 1), 1);
        Due.due("undo() of the first", x.undo(), 0);
        Due.due("loaf(0, 1)", x.loaf(0, 1), 0);
    }

    private static void noneToUndo() throws Exception {
        Due.sentence("STATE: there is none.");
        Due.due("undo() in a new object", new BreadNumbered().undo(), STATE);
        BreadNumbered x = Due.sieged("S255P0");
        Due.due("undo() behind siege()", x.undo(), STATE);
        x.day();
        x.undo();
        Due.due("undo() once more", x.undo(), STATE);
        x.keep(0);
        x.day();
        x.again(0);
        Due.due("undo() behind again()", x.undo(), STATE);
        Due.due("count(7)", x.count(7), 0);
    }

    private static void seedWas() throws Exception {
        Due.sentence("THE SEED is v: what it was.");
        BreadNumbered x = new BreadNumbered();
        long was = 0;
        for (long v : new long[] {0, 1, -1, Long.MAX_VALUE, Long.MIN_VALUE, 1L << 32, -(1L << 32), 0}) {
            Due.due("seed(" + v + ")", x.seed(v), was);
            was = v;
        }
    }
}
