import java.math.BigInteger;

/** The edges of what is worked out, kept and counted: a test for each sentence that names one. Promises 16 to 24. */
public final class AnswerEdges {
    private static final int UNKNOWN = Due.UNKNOWN, OUTSIDE = Due.OUTSIDE, STATE = Due.STATE, NONE = Due.NONE;
    private static final int PRIEST = Due.PRIEST;
    private static final int[] ODD = {-1, -9, 100, 256, Integer.MIN_VALUE, Integer.MAX_VALUE};
    private static final String NINE_LOAVES = "L0100L0200L0300L0400L0500L0600L0700L0800L0900";

    public static void main(String[] args) throws Exception {
        dayByDay();
        byNumber();
        leastNumber();
        leastLoaf();
        notToday();
        somebodyDies();
        inTheLastOne();
        nobodyAlive();
        twoHundredDays();
        whoOfSeveral();
        firstNone();
        lawAside();
        holdersAside();
        someEat();
        oneLoafEach();
        bestNotBad();
        daysAllLive();
        threeAlive();
        oneToTheGreatest();
        eatenHaveTheirs();
        missingFromZero();
        bakedToN();
        cutByTenths();
        chanceOfOne();
        forgedOutside();
        noneCanHaveIt();
        leastTerms();
        belowOne();
        refusedLikewise();
        helpByTenths();
        daysAhead();
        eighteenDays();
        helpOutside();
        helpOfNobody();
        slotsKeep();
        rowEmpty();
        theDayKept();
        keepUnknown();
        noneKept();
        counted();
        countedAtMost();
        countOutside();
        Due.end("AnswerEdges");
    }

    // ---- promises 16 and 17

    private static void lastsDue(BreadNumbered x, String what, int days, int who) {
        Due.due("lasts() of " + what, x.lasts(), days);
        Due.due("first() of " + what, x.first(), who);
    }

    private static void lastsDue(String text, int days, int who) {
        lastsDue(Due.sieged(text), text, days, who);
    }

    private static void dayByDay() throws Exception {
        Due.sentence("AS IT IS: from now on, day by day, each PERSON alive, by number, EATS");
        lastsDue("S219P1", 1, 0);
        lastsDue("S219P1L0100", 2 + 1, 0);
        lastsDue("S219P1L0100L0200", 2 + 2, 0);
        lastsDue("S219P1P1L0100", 1, 1);
        lastsDue("S219P1P1L0110", 1, 0);
        lastsDue("S219P1P1L0100L0210", 2 + 1, 0);
        lastsDue("S219P1P1P1P1P1L0100L0210L0320L0430", 1, 4);
        lastsDue("S219P1P1P1P1P1L0100L0210L0320L0440", 1, 3);
        lastsDue("S219P1P1P1P1P1L0100L0210L0320L0430L0540", 2 + 1, 0);
    }

    private static void byNumber() throws Exception {
        Due.sentence("each PERSON alive, by number, EATS");
        // By LAW 1 the next may EAT once the lesser NUMBER is EATEN: not, if the lesser is with a later PERSON.
        lastsDue("S119P1P1L1000L2010", 3, 0);
        lastsDue("S119P1P1L2000L1010", 1, 0);
        lastsDue("S119P1P1P1L1000L2010L3020", 3, 0);
        lastsDue("S119P1P1P1L1000L3010L2020", 1, 1);
    }

    private static void leastNumber() throws Exception {
        Due.sentence("the LOAF that it may EAT with the least NUMBER");
        // The 10 is EATEN today; if the other one is a day older, it is BAD tomorrow.
        for (int law = 0; law <= 2; law++) {
            lastsDue("S" + law + "12P1L1000L2001", 1 + 2, 0);
            lastsDue("S" + law + "12P1L2001L1000", 1 + 2, 0);
            lastsDue("S" + law + "12P1L1001L2000", 2 + 2, 0);
            lastsDue("S" + law + "12P1L2000L1001", 2 + 2, 0);
        }
        lastsDue("S212P1L0101L0201", 1 + 2, 0);
        lastsDue("S212P1L0101L0200", 2 + 2, 0);
        // One that is BAD is not EATEN, and keeps nobody from the next.
        lastsDue("S012P1L1002L2000", 1 + 2, 0);
        lastsDue("S112P1L1002L2000", 1 + 2, 0);
    }

    private static void leastLoaf() throws Exception {
        Due.sentence("with the least NUMBER (of like ones the least LOAF)");
        for (int law = 0; law <= 2; law++) {
            BreadNumbered elderLast = Due.sieged("S" + law + "12P1L1900L1601");
            elderLast.cut(0);
            lastsDue(elderLast, "like NUMBERS, the elder told last", 1 + 2, 0);
            BreadNumbered elderFirst = Due.sieged("S" + law + "12P1L1901L1600");
            elderFirst.cut(0);
            lastsDue(elderFirst, "like NUMBERS, the elder told first", 2 + 2, 0);
        }
    }

    private static void notToday() throws Exception {
        Due.sentence("if it did not today; then the DAY goes by.");
        BreadNumbered x = Due.sieged("S219P1P1L0100L0200L0310");
        lastsDue(x, "two that did not EAT", 3, 1);
        x.eat(0, 0);
        lastsDue(x, "one that did EAT today", 3, 1);
        x.day();
        lastsDue(x, "the next day, when 1 is dead", 3, 0);
        BreadNumbered one = Due.sieged("S219P1L0100L0200");
        Due.due("lasts()", one.lasts(), 4);
        one.eat(0, 0);
        Due.due("lasts() behind the first meal", one.lasts(), 4);
        one.day();
        Due.due("lasts() a day later", one.lasts(), 3);
        one.eat(0, 1);
        Due.due("lasts() behind the last meal", one.lasts(), 3);
    }

    private static void somebodyDies() throws Exception {
        Due.sentence("LASTS: behind how many such DAYS somebody dies");
        for (int lives = 1; lives <= 9; lives++) {
            for (int fasted = 0; fasted <= lives; fasted++) {
                lastsDue("S2" + lives + "9P" + fasted, lives - fasted + 1, 0);
                lastsDue("S2" + lives + "9P0P" + fasted, lives - fasted + 1, fasted == 0 ? 0 : 1);
                lastsDue("S2" + lives + "9P" + fasted + "L0100", lives + 2, 0);
            }
        }
    }

    /** What AS IT IS tells, done with may(), eat() and day(). */
    private static int liveADay(BreadNumbered x) {
        int people = x.count(1);
        int loaves = x.count(2);
        for (int person = 0; person < people; person++) {
            int least = -1;
            for (int loaf = 0; loaf < loaves; loaf++) {
                if (x.may(person, loaf) == 1 && (least < 0 || x.loaf(loaf, 0) < x.loaf(least, 0))) {
                    least = loaf;
                }
            }
            if (least >= 0) {
                x.eat(person, least);
            }
        }
        return x.day();
    }

    private static void inTheLastOne() throws Exception {
        Due.sentence("(somebody dies in the last one of them;");
        String[] texts = {
            "S019P1P0L1000L2010L0900L3011", "S119P1P0L1000L2010L0900L3011", "S219P1P0L1000L2010L0900L3011",
            "S023P2P0P1L1000L2012L0521L3001", "S123P2P0P1L1000L2012L0521L3001", "S223P2P0P1L1000L2012L0521L3001"
        };
        for (String text : texts) {
            BreadNumbered x = Due.sieged(text);
            int lasts = x.lasts();
            int who = x.first();
            Due.holds("lasts() of " + text + " is at least 1", lasts >= 1);
            for (int day = 1; day <= lasts; day++) {
                int died = liveADay(x);
                Due.due("who dies first on day " + day + " of " + lasts + " of " + text,
                        died == 0 ? -1 : Integer.numberOfTrailingZeros(died), day == lasts ? who : -1);
            }
        }
    }

    private static void nobodyAlive() throws Exception {
        Due.sentence("0: nobody is alive); who (of several the least).");
        lastsDue(new BreadNumbered(), "a new object", 0, NONE);
        lastsDue("S299", 0, NONE);
        BreadNumbered x = Due.sieged("S219P1P1L0100");
        x.day();
        lastsDue(x, "the dead", 0, NONE);
    }

    private static void twoHundredDays() throws Exception {
        Due.sentence("LASTS; NONE: nobody dies in 200 DAYS.");
        // Behind nine days all bread is BAD, behind nine more one that LIVES longest dies: 19 is the most.
        lastsDue("S299P0" + NINE_LOAVES, 19, 0);
        lastsDue("S299P0" + NINE_LOAVES + "L1000", 19, 0);
        lastsDue("S298P0" + NINE_LOAVES, 18, 0);
        lastsDue("S289P0" + NINE_LOAVES, 18, 0);
        BreadNumbered x = Due.sieged("S299P0" + NINE_LOAVES);
        for (int days = 19; days >= 1; days--) {
            Due.due("lasts() on day " + x.count(4), x.lasts(), days);
            Due.due("who dies", liveADay(x), days == 1 ? 1 : 0);
        }
        Due.due("lasts() behind the last day", x.lasts(), 0);
    }

    private static void whoOfSeveral() throws Exception {
        Due.sentence("who (of several the least).");
        for (int dying = 1; dying <= 31; dying++) {
            StringBuilder text = new StringBuilder("S222");
            for (int person = 0; person < 5; person++) {
                text.append((dying >> person & 1) == 1 ? "P2" : "P0");
            }
            lastsDue(text.toString(), 1, Integer.numberOfTrailingZeros(dying));
            BreadNumbered x = Due.sieged(text.toString());
            x.day();
            int left = 31 - dying;
            lastsDue(x, text + " a day later", left == 0 ? 0 : 2, left == 0 ? NONE : Integer.numberOfTrailingZeros(left));
        }
    }

    private static void firstNone() throws Exception {
        Due.sentence("Who dies first; NONE: as lasts() tells NONE or 0.");
        Due.due("first() in a new object", new BreadNumbered().first(), NONE);
        Due.due("first() of nobody", Due.sieged("S299").first(), NONE);
        Due.due("first() of one", Due.sieged("S299P0").first(), 0);
        Due.due("first() of the last", Due.sieged("S219P0P0P0P0P1").first(), 4);
        BreadNumbered x = Due.sieged("S211P1");
        x.day();
        Due.due("first() of the dead", x.first(), NONE);
    }

    // ---- promise 18

    private static void bestDue(String text, int days) {
        Due.due("best() of " + text, Due.sieged(text).best(), days);
    }

    private static void lawAside() throws Exception {
        Due.sentence("AT BEST: nobody looks at the LAW");
        for (int law = 0; law <= 2; law++) {
            // The elder has the greater NUMBER; eaten first, both are of use.
            bestDue("S" + law + "12P1L1000L2001", 3);
            bestDue("S" + law + "12P1P1L1001L2001", 2);
            bestDue("S" + law + "12P1P1L2000L1010", 2);
            bestDue("S" + law + "12P1P1L9900L9800", 2);
        }
    }

    private static void holdersAside() throws Exception {
        Due.sentence("or at who holds what (LOAVES with THE PRIEST are none)");
        bestDue("S219P1P1L0100L0200", 2);
        bestDue("S219P1P1L0110L0210", 2);
        bestDue("S219P1P1L0100", 0);
        BreadNumbered x = Due.sieged("S219P1P1L0100L0210");
        x.give(1, PRIEST);
        Due.due("best() beside the priest's", x.best(), 0);
        x.give(1, 0);
        Due.due("best() without the priest", x.best(), 2);
        BreadNumbered dead = Due.sieged("S219P0P1L0110");
        dead.day();
        Due.due("best() beside a dead one's bread", dead.best(), 0);
        dead.give(0, 0);
        Due.due("best() with it", dead.best(), 2);
    }

    private static void someEat() throws Exception {
        Due.sentence("each DAY some of those alive EAT (who did not today)");
        BreadNumbered x = Due.sieged("S212P1L0101L0200");
        Due.due("best()", x.best(), 3);
        x.eat(0, 1);
        Due.due("best(): it did EAT today, and the other is BAD tomorrow", x.best(), 2);
        x.undo();
        x.eat(0, 0);
        Due.due("best(): it did EAT the elder", x.best(), 3);
        x.day();
        Due.due("best() a day later", x.best(), 2);
        BreadNumbered two = Due.sieged("S211P1P1L0100L0200L0310");
        two.eat(0, 0);
        Due.due("best(): the other one did not EAT", two.best(), 2);
        two.eat(1, 2);
        Due.due("best(): both did", two.best(), 2);
        // Not each day is a meal: each second day is enough to live.
        bestDue("S219P1L0100", 2);
        bestDue("S219P1L0100L0200", 4);
        bestDue("S219P1L0100L0200L0300", 6);
        bestDue("S219P1P1P1L0100L0200L0300L0410L0510L0610", 4);
    }

    private static void oneLoafEach() throws Exception {
        Due.sentence("one LOAF each that is not BAD: how many DAYS all can live");
        bestDue("S211P1L0100L0200", 2);
        bestDue("S212P1L0101L0201", 2);
        bestDue("S211P1P1L0100L0200", 2);
        bestDue("S211P1P1L0100", 0);
        bestDue("S211P1P1P1L0100L0210L0320", 2);
        bestDue("S211P1P1P1L0100L0210", 0);
    }

    private static void bestNotBad() throws Exception {
        Due.sentence("one LOAF each that is not BAD");
        for (int badAt = 1; badAt <= 9; badAt++) {
            for (int age = 0; age <= 9; age++) {
                // It must EAT today, or may wait for three days: till the LOAF is BAD, if that is sooner.
                bestDue("S23" + badAt + "P3L010" + age, age < badAt ? 4 : 0);
                bestDue("S23" + badAt + "P0L010" + age, 3 + Math.max(0, Math.min(4, badAt - age)));
            }
        }
    }

    private static void daysAllLive() throws Exception {
        Due.sentence("how many DAYS all can live, at most (the one in which one must die not among them).");
        for (int lives = 1; lives <= 9; lives++) {
            for (int fasted = 0; fasted <= lives; fasted++) {
                bestDue("S2" + lives + "9P" + fasted, lives - fasted);
                bestDue("S2" + lives + "9P0P" + fasted + "P0", lives - fasted);
            }
        }
        bestDue("S299P0" + NINE_LOAVES, 18);
        bestDue("S299P0L0100", 18);
        bestDue("S299P0L0101", 17);
        bestDue("S299P0P0P0L0100L0200L0300", 18);
        bestDue("S299P0P0P0L0100L0200", 9);
        // Beside LASTS, in whose last DAY somebody dies.
        Due.due("lasts()", Due.sieged("S299P0" + NINE_LOAVES).lasts(), 19);
    }

    private static void threeAlive() throws Exception {
        Due.sentence("AT BEST. STATE: more than three are alive, or nobody.");
        for (int alive = 0; alive <= 5; alive++) {
            bestDue("S222" + "P1".repeat(alive), alive == 0 || alive > 3 ? STATE : 1);
        }
        for (int dead = 0; dead <= 5; dead++) {
            BreadNumbered x = Due.sieged("S222" + "P2".repeat(dead) + "P0".repeat(5 - dead));
            x.day();
            Due.due("best() when " + dead + " of five are dead", x.best(), dead < 2 || dead == 5 ? STATE : 1);
        }
        Due.due("best() in a new object", new BreadNumbered().best(), STATE);
    }

    // ---- promise 19

    private static void oneToTheGreatest() throws Exception {
        Due.sentence("MISSING: NUMBERS from 1 to the greatest that a LOAF has");
        missingDue(new BreadNumbered(), "no bread");
        missingDue(Due.sieged("S255P0L0100"), "1");
        missingDue(Due.sieged("S255P0L0200"), "2", 1);
        missingDue(Due.sieged("S255P0L0300L0100"), "3 and 1", 2);
        missingDue(Due.sieged("S255P0L1000L0100L0300L0900L0500"), "10, 1, 3, 9, 5", 2, 4, 6, 7, 8);
        missingDue(Due.sieged("S255P0" + NINE_LOAVES + "L1000"), "1 to 10");
        missingDue(Due.sieged("S255P0" + NINE_LOAVES + "L1100"), "1 to 9 and 11", 10);
        BreadNumbered most = Due.sieged("S255P0L9900");
        Due.due("count(8) of 99", most.count(8), 98);
        for (int i = 0; i <= 98; i++) {
            Due.due("missing(" + i + ") of 99", most.missing(i), i < 98 ? i + 1 : NONE);
        }
    }

    private static void missingDue(BreadNumbered x, String what, int... want) {
        Due.due("count(8) of " + what, x.count(8), want.length);
        for (int i = 0; i < want.length; i++) {
            Due.due("missing(" + i + ") of " + what, x.missing(i), want[i]);
        }
        Due.due("missing(" + want.length + ") of " + what, x.missing(want.length), NONE);
    }

    private static void eatenHaveTheirs() throws Exception {
        Due.sentence("(EATEN ones have theirs, too), that none has.");
        BreadNumbered x = Due.sieged("S255P0P0P5L0400L0210L0905");
        missingDue(x, "4, 2, 9", 1, 3, 5, 6, 7, 8);
        x.eat(0, 0);
        x.eat(1, 1);
        missingDue(x, "4 and 2 EATEN, 9", 1, 3, 5, 6, 7, 8);
        x.give(2, PRIEST);
        missingDue(x, "4 and 2 EATEN, 9 with the priest", 1, 3, 5, 6, 7, 8);
        x.cut(2);
        missingDue(x, "4 and 2 EATEN, 9 that was cut", 1, 3, 5);
        BreadNumbered all = Due.sieged("S255P0L0300");
        all.eat(0, 0);
        missingDue(all, "3 EATEN", 1, 2);
        BreadNumbered alike = Due.sieged("S255P0L0600L0900");
        alike.cut(1);
        missingDue(alike, "6 and 6", 1, 2, 3, 4, 5);
    }

    private static void missingFromZero() throws Exception {
        Due.sentence("The i-th NUMBER that is MISSING (from 0); NONE: there are not so many.");
        BreadNumbered x = Due.sieged("S255P0L0300");
        Due.due("missing(0)", x.missing(0), 1);
        Due.due("missing(1)", x.missing(1), 2);
        Due.due("missing(2)", x.missing(2), NONE);
        for (int odd : ODD) {
            Due.due("missing(" + odd + ")", x.missing(odd), NONE);
        }
        Due.due("missing(0) of no bread", Due.sieged("S255P0").missing(0), NONE);
    }

    // ---- promise 20

    private static void forgedDue(int v, int n, int x, int above, int below) {
        BreadNumbered any = new BreadNumbered();
        Due.due("forged(" + v + ", " + n + ", " + x + ", true)", any.forged(v, n, x, true), above);
        Due.due("forged(" + v + ", " + n + ", " + x + ", false)", any.forged(v, n, x, false), below);
    }

    private static void bakedToN() throws Exception {
        Due.sentence("FORGED: LOAVES of NUMBERS 1 to n (1 to 99) were baked, one each");
        forgedDue(1, 1, 5, 0, 1);
        forgedDue(2, 1, 5, STATE, STATE);
        forgedDue(6, 8, 10, 0, 1);
        forgedDue(6, 9, 10, 1, 2);
        forgedDue(63, 92, 10, 0, 1);
        forgedDue(63, 93, 10, 1, 2);
        forgedDue(63, 62, 10, STATE, STATE);
        forgedDue(98, 98, 5, 0, 1);
        forgedDue(99, 98, 5, STATE, STATE);
        forgedDue(99, 99, 5, 0, 1);
        forgedDue(69, 98, 10, STATE, STATE);
        forgedDue(69, 99, 10, 1, 1);
    }

    private static void cutByTenths() throws Exception {
        Due.sentence("each with a figure 9 was CUT by x tenths (0 to 10).");
        for (int x = 0; x <= 10; x++) {
            BreadNumbered any = new BreadNumbered();
            int above = any.forged(16, 19, x, true);
            int below = any.forged(16, 19, x, false);
            Due.due("above by below of forged(16, 19, " + x + ")", (long) above * (10 + x), (long) below * x);
            Due.due("forged(8, 99, " + x + "): it has no figure 9", any.forged(8, 99, x, true), 0);
        }
        forgedDue(16, 19, 0, 0, 1);
        forgedDue(16, 19, 1, 1, 11);
        forgedDue(16, 19, 9, 9, 19);
        forgedDue(16, 19, 10, 1, 2);
    }

    private static void chanceOfOne() throws Exception {
        Due.sentence("The chance that one that has NUMBER v now was CUT (how many that were CUT have it in the mean, "
                + "by how many have it in the mean).");
        // 66: itself, 69 and 96 that were CUT, but not 99, whose first 9 alone is cut.
        forgedDue(66, 99, 10, 2, 3);
        forgedDue(66, 95, 10, 1, 2);
        forgedDue(66, 68, 10, 0, 1);
        forgedDue(66, 99, 5, 1, 2);
        // 69: itself, if it was not CUT, and 99.
        forgedDue(69, 99, 5, 1, 2);
        forgedDue(69, 99, 3, 3, 10);
        forgedDue(96, 99, 3, 0, 1);
        // 60 to 68: beside itself the one of the nineties.
        forgedDue(60, 90, 1, 1, 11);
        forgedDue(60, 89, 1, 0, 1);
    }

    private static void forgedOutside() throws Exception {
        Due.sentence("FORGED. OUTSIDE: v (1 to 99), n, x;");
        forgedDue(1, 99, 0, 0, 1);
        forgedDue(99, 99, 0, 0, 1);
        forgedDue(1, 1, 10, 0, 1);
        forgedDue(0, 99, 5, OUTSIDE, OUTSIDE);
        forgedDue(100, 99, 5, OUTSIDE, OUTSIDE);
        forgedDue(1, 0, 5, OUTSIDE, OUTSIDE);
        forgedDue(1, 100, 5, OUTSIDE, OUTSIDE);
        forgedDue(1, 99, -1, OUTSIDE, OUTSIDE);
        forgedDue(1, 99, 11, OUTSIDE, OUTSIDE);
        for (int odd : ODD) {
            forgedDue(odd, 99, 5, OUTSIDE, OUTSIDE);
            forgedDue(1, odd, 5, OUTSIDE, OUTSIDE);
            forgedDue(1, 99, odd, OUTSIDE, OUTSIDE);
        }
    }

    private static void noneCanHaveIt() throws Exception {
        Due.sentence("STATE: none can have that NUMBER.");
        forgedDue(9, 9, 10, STATE, STATE);
        forgedDue(9, 9, 9, 0, 1);
        forgedDue(9, 8, 9, STATE, STATE);
        forgedDue(69, 99, 10, 1, 1);
        forgedDue(69, 98, 10, STATE, STATE);
        forgedDue(66, 65, 10, STATE, STATE);
        forgedDue(99, 99, 10, STATE, STATE);
        forgedDue(90, 99, 10, STATE, STATE);
        forgedDue(90, 99, 9, 0, 1);
        forgedDue(70, 69, 5, STATE, STATE);
        forgedDue(70, 70, 5, 0, 1);
    }

    private static void leastTerms() throws Exception {
        Due.sentence("FRACTIONS are told above (upper = true), below (1 and more), in least terms");
        BreadNumbered any = Due.sieged("S299P0" + NINE_LOAVES);
        for (int x = 0; x <= 10; x++) {
            for (int v = 1; v <= 99; v++) {
                inLeastTerms("forged(" + v + ", 99, " + x + ")", new BreadNumbered().forged(v, 99, x, true),
                        new BreadNumbered().forged(v, 99, x, false));
            }
            inLeastTerms("help(" + x + ")", any.help(x, true), any.help(x, false));
        }
    }

    private static void inLeastTerms(String what, long above, long below) {
        boolean isRefused = above == STATE && below == STATE;
        boolean isLeast = above >= 0 && above <= below
                && BigInteger.valueOf(above).gcd(BigInteger.valueOf(below)).equals(BigInteger.ONE);
        Due.holds(what + " answered " + above + " by " + below, isRefused || isLeast);
    }

    private static void belowOne() throws Exception {
        Due.sentence("below (1 and more)");
        forgedDue(1, 99, 5, 0, 1);
        forgedDue(69, 99, 10, 1, 1);
        helpDue("S211P1", 5, 0, 1);
        helpDue("S211P0", 0, 0, 1);
        helpDue("S211P0", 10, 1, 1);
    }

    private static void refusedLikewise() throws Exception {
        Due.sentence("refusals of them are told likewise.");
        forgedDue(0, 99, 5, OUTSIDE, OUTSIDE);
        forgedDue(99, 98, 5, STATE, STATE);
        helpDue("S211P1", 11, OUTSIDE, OUTSIDE);
        helpDue("S211", 5, STATE, STATE);
    }

    // ---- promise 21

    private static void helpDue(String text, int x, long above, long below) {
        BreadNumbered siege = Due.sieged(text);
        Due.due("help(" + x + ", true) of " + text, siege.help(x, true), above);
        Due.due("help(" + x + ", false) of " + text, siege.help(x, false), below);
    }

    /** A SIEGE that LASTS so many DAYS, 1 to 19. */
    private static String lasting(int days) {
        return days <= 10 ? "S299P" + (10 - days) : "S299P0" + NINE_LOAVES.substring(0, 5 * (days - 10));
    }

    private static void helpByTenths() throws Exception {
        Due.sentence("HELP comes each DAY by x tenths (0 to 10)");
        long[][] ofOneDay = {{0, 1}, {1, 10}, {1, 5}, {3, 10}, {2, 5}, {1, 2}, {3, 5}, {7, 10}, {4, 5}, {9, 10}, {1, 1}};
        for (int x = 0; x <= 10; x++) {
            helpDue("S211P0", x, ofOneDay[x][0], ofOneDay[x][1]);
        }
        helpDue("S221P0", 1, 19, 100);
        helpDue("S221P0", 9, 99, 100);
    }

    private static void daysAhead() throws Exception {
        Due.sentence("the chance that it comes in one of the DAYS that are ahead of the one in which somebody dies, "
                + "as LASTS tells");
        for (int lasts = 1; lasts <= 19; lasts++) {
            Due.due("the test's own siege", Due.sieged(lasting(lasts)).lasts(), lasts);
            for (int x = 0; x <= 10; x++) {
                BigInteger below = BigInteger.TEN.pow(lasts - 1);
                BigInteger above = below.subtract(BigInteger.valueOf(10 - x).pow(lasts - 1));
                BigInteger divisor = above.gcd(below);
                helpDue(lasting(lasts), x, above.divide(divisor).longValueExact(), below.divide(divisor).longValueExact());
            }
        }
        BreadNumbered x = Due.sieged("S211P1L0100");
        Due.due("help(5, false) ahead of a meal", x.help(5, false), 4);
        x.give(0, PRIEST);
        Due.due("help(5, false) when the priest has it", x.help(5, false), 1);
    }

    private static void eighteenDays() throws Exception {
        Due.sentence("as LASTS tells, 18 of them at most.");
        helpDue(lasting(18), 9, 99999999999999999L, 100000000000000000L);
        helpDue(lasting(19), 9, 999999999999999999L, 1000000000000000000L);
        helpDue(lasting(18), 5, 131071, 131072);
        helpDue(lasting(19), 5, 262143, 262144);
    }

    private static void helpOutside() throws Exception {
        Due.sentence("HELP. OUTSIDE: x;");
        helpDue("S211P1", -1, OUTSIDE, OUTSIDE);
        helpDue("S211P1", 11, OUTSIDE, OUTSIDE);
        for (int odd : ODD) {
            helpDue("S211P1", odd, OUTSIDE, OUTSIDE);
        }
    }

    private static void helpOfNobody() throws Exception {
        Due.sentence("STATE: nobody is alive. (lasts() NONE: as if it were 200.)");
        for (int x = 0; x <= 10; x++) {
            helpDue("S211", x, STATE, STATE);
        }
        BreadNumbered dead = Due.sieged("S211P1P1");
        dead.day();
        Due.due("help(5, true) of the dead", dead.help(5, true), STATE);
        Due.due("help(0, false) of the dead", dead.help(0, false), STATE);
        Due.due("help(10, true) in a new object", new BreadNumbered().help(10, true), STATE);
    }

    // ---- promises 22 and 23

    private static void slotsKeep() throws Exception {
        Due.sentence("SLOTS 0 to 1 keep PEOPLE, LOAVES, THE DAY, THE SEED");
        for (int slot = 0; slot <= 1; slot++) {
            int one = slot;
            Due.Setup kept = () -> {
                BreadNumbered x = Due.sieged("S229P2P1P0L9910L1929L3020");
                x.seed(-7);
                x.cut(0);
                x.eat(1, 0);
                x.day();
                x.give(2, PRIEST);
                x.keep(one);
                x.again(one);
                return x;
            };
            Due.onlyAsks(kept, "acts and again(" + slot + ")", x -> {
                x.seed(99);
                x.give(2, 2);
                x.eat(2, 2);
                x.cut(1);
                x.day();
                x.day();
                x.night();
                return x.again(one);
            });
        }
        BreadNumbered x = Due.sieged("S219P1");
        x.keep(0);
        x.day();
        x.keep(1);
        Due.due("again(0)", x.again(0), 0);
        Due.due("count(3)", x.count(3), 1);
        Due.due("again(1)", x.again(1), 1);
        Due.due("count(3)", x.count(3), 0);
        Due.tell(x, "S2");
        Due.due("again(0)", x.again(0), 0);
        Due.due("count(0): THE TEXT is not kept", x.count(0), 2);
    }

    private static void rowEmpty() throws Exception {
        Due.sentence("(THE ROW of ACTS is empty when one goes on)");
        BreadNumbered x = Due.sieged("S255P0");
        for (int act = 1; act <= 25; act++) {
            x.day();
        }
        x.keep(0);
        Due.due("count(7) behind keep()", x.count(7), 20);
        Due.due("undo() behind keep()", x.undo(), 19);
        x.again(0);
        Due.due("count(7) behind again()", x.count(7), 0);
        Due.due("undo() behind again()", x.undo(), STATE);
        x.day();
        Due.due("count(7) behind an act", x.count(7), 1);
        Due.due("undo() of it", x.undo(), 0);
        Due.due("count(4)", x.count(4), 25);
    }

    private static void theDayKept() throws Exception {
        Due.sentence("They are kept: THE DAY. UNKNOWN.");
        BreadNumbered x = Due.sieged("S255P0");
        Due.due("keep(0)", x.keep(0), 0);
        x.day();
        Due.due("keep(1)", x.keep(1), 1);
        x.day();
        Due.due("keep(1) once more", x.keep(1), 2);
        Due.due("again(0)", x.again(0), 0);
        Due.due("again(1)", x.again(1), 2);
        Due.due("keep(0) in a new object", new BreadNumbered().keep(0), 0);
    }

    private static void keepUnknown() throws Exception {
        Due.sentence("UNKNOWN (there is no such PERSON, LOAF, SLOT)");
        BreadNumbered x = Due.sieged("S255P0");
        x.keep(0);
        x.keep(1);
        for (int slot : new int[] {-1, 2, 3, 10, -9, Integer.MIN_VALUE, Integer.MAX_VALUE}) {
            Due.due("keep(" + slot + ")", x.keep(slot), UNKNOWN);
            Due.due("again(" + slot + ")", x.again(slot), UNKNOWN);
        }
    }

    private static void noneKept() throws Exception {
        Due.sentence("They are as they were kept: THE DAY. UNKNOWN; STATE: none were kept.");
        for (int slot = 0; slot <= 1; slot++) {
            BreadNumbered x = new BreadNumbered();
            Due.due("again(" + slot + ") in a new object", x.again(slot), STATE);
            x.day();
            x.keep(slot);
            x.day();
            Due.due("again(" + slot + ")", x.again(slot), 1);
            Due.due("again(" + slot + ") once more", x.again(slot), 1);
            Due.due("again() of the other", x.again(1 - slot), STATE);
            Due.tell(x, "S299");
            x.siege();
            Due.due("again(" + slot + ") behind siege()", x.again(slot), STATE);
        }
    }

    // ---- promise 24

    private static void countsDue(BreadNumbered x, String what, int... want) {
        for (int i = 0; i < want.length; i++) {
            Due.due("count(" + i + ") " + what, x.count(i), want[i]);
        }
    }

    private static void counted() throws Exception {
        Due.sentence("0 bytes of THE TEXT, 1 PEOPLE, 2 LOAVES, 3 who is alive (bits), 4 THE DAY, 5 LOAVES that are EATEN, "
                + "6 BAD ones (not EATEN), 7 ACTS in the row, 8 how many NUMBERS are MISSING, 9 the LAW. OUTSIDE.");
        countsDue(new BreadNumbered(), "in a new object", 0, 0, 0, 0, 0, 0, 0, 0, 0, 0);
        BreadNumbered x = Due.told("S212P1P0L0300L0112L0210");
        countsDue(x, "ahead of siege()", 23, 0, 0, 0, 0, 0, 0, 0, 0, 0);
        x.siege();
        countsDue(x, "behind siege()", 23, 2, 3, 3, 0, 0, 1, 0, 0, 2);
        x.eat(1, 2);
        countsDue(x, "behind a meal", 23, 2, 3, 3, 0, 1, 1, 1, 0, 2);
        x.day();
        countsDue(x, "behind a day", 23, 2, 3, 2, 1, 1, 1, 2, 0, 2);
        x.day();
        x.wipe();
        countsDue(x, "behind two days", 0, 2, 3, 2, 2, 1, 2, 3, 0, 2);
    }

    private static void countedAtMost() throws Exception {
        Due.sentence("0 bytes of THE TEXT, 1 PEOPLE, 2 LOAVES");
        BreadNumbered x = Due.sieged(Due.GREATEST.replaceFirst("S0", "S2"));
        countsDue(x, "of the greatest siege", 64, 5, 10, 31, 0, 0, 1, 0, 89, 2);
        x.write(8, 0);
        x.write(8, 0);
        for (int act = 1; act <= 22; act++) {
            x.day();
        }
        countsDue(x, "when all are dead", 80, 5, 10, 0, 22, 0, 10, 20, 89, 2);
        BreadNumbered eaten = Due.sieged("S299P0P0P0P0P0L0100L0210L0320L0430L0540L0600L0710L0820L0930L9940");
        for (int loaf = 0; loaf < 10; loaf++) {
            Due.due("count(5)", eaten.count(5), loaf);
            if (loaf == 5) {
                eaten.day();
            }
            Due.holds("the test's own meal " + loaf, eaten.eat(loaf % 5, loaf) > 0);
        }
        countsDue(eaten, "when all is EATEN", 64, 5, 10, 31, 1, 10, 0, 11, 89, 2);
        for (int day = 0; day < 9; day++) {
            eaten.day();
        }
        Due.due("count(6): EATEN ones are none", eaten.count(6), 0);
    }

    private static void countOutside() throws Exception {
        Due.sentence("9 the LAW. OUTSIDE.");
        BreadNumbered x = Due.sieged("S255P0");
        Due.due("count(9)", x.count(9), 2);
        Due.due("count(10)", x.count(10), OUTSIDE);
        for (int odd : ODD) {
            Due.due("count(" + odd + ")", x.count(odd), OUTSIDE);
        }
    }
}
