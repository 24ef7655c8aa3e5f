/**
 * Each call that can be refused, in each state in which it is: which refusal it is, of several the
 * first, and that it changes nothing. What only asks changes nothing either.
 */
public final class RefusedEdges {
    private static final int UNKNOWN = Due.UNKNOWN, OUTSIDE = Due.OUTSIDE, STATE = Due.STATE, FULL = Due.FULL;
    private static final int NONE = Due.NONE, PRIEST = Due.PRIEST;
    private static final int[] ODD = {-1, -9, 11, 20, 100, Integer.MIN_VALUE, Integer.MAX_VALUE};

    public static void main(String[] args) throws Exception {
        constants();
        writeChangesNothing();
        siegeChangesNothing();
        unknownChangesNothing();
        outsideChangesNothing();
        eatChangesNothing();
        giveChangesNothing();
        cutChangesNothing();
        undoChangesNothing();
        againChangesNothing();
        nobodyChangesNothing();
        outsideAheadOfFull();
        unknownAheadOfOutside();
        unknownAheadOfState();
        outsideAheadOfState();
        askingChangesNothing();
        Due.end("RefusedEdges");
    }

    // ---- states: each is made anew for each call

    /** Nothing was told yet. */
    private static BreadNumbered atFirst() {
        return new BreadNumbered();
    }

    /** A dead PERSON, one that did EAT today, an EATEN LOAF, a BAD one, one of THE PRIEST; some ACTS, one SLOT. */
    private static BreadNumbered midway() {
        BreadNumbered x = Due.sieged("S233P3P2P0L0910L1921L3000L8822");
        x.seed(-12345);
        x.keep(1);
        x.eat(1, 0);
        x.give(2, PRIEST);
        x.day();
        x.give(2, 2);
        x.seed(678);
        x.eat(2, 2);
        x.cut(1);
        x.give(1, PRIEST);
        return x;
    }

    /** THE ROW of ACTS is full, its first one is forgotten; both SLOTS, all 80 bytes. */
    private static BreadNumbered full() {
        BreadNumbered x = Due.sieged("S099P4P9L9900L0110");
        for (int act = 1; act <= 23; act++) {
            if (act % 3 == 0) {
                x.night();
            } else {
                x.give(0, x.loaf(0, 1) == PRIEST ? 0 : PRIEST);
            }
            if (act == 4) {
                x.keep(0);
            }
        }
        x.day();
        x.keep(1);
        x.seed(Long.MIN_VALUE);
        Due.tell(x, "S099P4P9L9900L0110" + "!".repeat(62));
        return x;
    }

    /** All are dead, and what is told has a fault. */
    private static BreadNumbered allDead() {
        BreadNumbered x = Due.sieged("S112P1P0L0900L2001");
        x.keep(0);
        x.day();
        x.cut(0);
        x.day();
        x.day();
        Due.tell(x, "S112P1L");
        return x;
    }

    private static final Due.Setup[] STATES = {
        RefusedEdges::atFirst, RefusedEdges::midway, RefusedEdges::full, RefusedEdges::allDead
    };

    /** Refused in whatever state. */
    private static void alwaysRefused(String call, Due.Call refusedCall, int want) {
        for (Due.Setup state : STATES) {
            Due.refused(state, call, refusedCall, want);
        }
    }

    private static void midwayRefused(String call, Due.Call refusedCall, int want) {
        Due.refused(RefusedEdges::midway, call, refusedCall, want);
    }

    // ---- the refusals

    private static void constants() throws Exception {
        Due.sentence("public static final int UNKNOWN = -1, OUTSIDE = -2, STATE = -3, FULL = -4, NONE = -9;");
        Due.due("UNKNOWN", BreadNumbered.UNKNOWN, -1);
        Due.due("OUTSIDE", BreadNumbered.OUTSIDE, -2);
        Due.due("STATE", BreadNumbered.STATE, -3);
        Due.due("FULL", BreadNumbered.FULL, -4);
        Due.sentence("NONE is -9.");
        Due.due("NONE", BreadNumbered.NONE, -9);
    }

    private static void writeChangesNothing() throws Exception {
        Due.sentence("What is refused changes nothing. NONE is -9.");
        alwaysRefused("write(0)", x -> x.write(0, 'S'), OUTSIDE);
        alwaysRefused("write(9)", x -> x.write(9, 'S'), OUTSIDE);
        for (int odd : ODD) {
            alwaysRefused("write(" + odd + ")", x -> x.write(odd, 'S'), OUTSIDE);
        }
        for (int bytes = 1; bytes <= 8; bytes++) {
            int n = bytes;
            Due.refused(RefusedEdges::full, "write(" + n + ") at 80", x -> x.write(n, -1L), FULL);
            Due.Setup nearlyFull = () -> {
                BreadNumbered x = full();
                Due.tell(x, "S255P0L0100" + "P0".repeat(30) + "!".repeat(10 - n));
                return x;
            };
            Due.refused(nearlyFull, "write(" + n + ") at " + (81 - n), x -> x.write(n, -1L), FULL);
        }
    }

    private static void siegeChangesNothing() throws Exception {
        Due.sentence("STATE: a FAULT.");
        Due.refused(RefusedEdges::atFirst, "siege() of none", x -> x.siege(), STATE);
        Due.refused(RefusedEdges::full, "siege() of 80 bytes", x -> x.siege(), STATE);
        Due.refused(RefusedEdges::allDead, "siege() of a text not at its end", x -> x.siege(), STATE);
        for (String text : new String[] {"S", "S0", "S111P", "S211P0P0P0L01", "S299P0L9900L9900", "S099!", "P0"}) {
            Due.Setup faulty = () -> {
                BreadNumbered x = midway();
                Due.tell(x, text);
                return x;
            };
            Due.refused(faulty, "siege() of " + text, x -> x.siege(), STATE);
        }
    }

    private static void unknownChangesNothing() throws Exception {
        Due.sentence("UNKNOWN (there is no such PERSON, LOAF, SLOT)");
        for (int odd : ODD) {
            alwaysRefused("person(" + odd + ", 0)", x -> x.person(odd, 0), UNKNOWN);
            alwaysRefused("loaf(" + odd + ", 0)", x -> x.loaf(odd, 0), UNKNOWN);
            alwaysRefused("may(" + odd + ", 0)", x -> x.may(odd, 0), UNKNOWN);
            alwaysRefused("may(0, " + odd + ")", x -> x.may(0, odd), UNKNOWN);
            alwaysRefused("eat(" + odd + ", 0)", x -> x.eat(odd, 0), UNKNOWN);
            alwaysRefused("eat(0, " + odd + ")", x -> x.eat(0, odd), UNKNOWN);
            alwaysRefused("give(" + odd + ", 0)", x -> x.give(odd, 0), UNKNOWN);
            alwaysRefused("give(0, " + odd + ")", x -> x.give(0, odd), UNKNOWN);
            alwaysRefused("cut(" + odd + ")", x -> x.cut(odd), UNKNOWN);
            alwaysRefused("keep(" + odd + ")", x -> x.keep(odd), UNKNOWN);
            alwaysRefused("again(" + odd + ")", x -> x.again(odd), UNKNOWN);
        }
        // One more than there are.
        midwayRefused("person(3, 0)", x -> x.person(3, 0), UNKNOWN);
        midwayRefused("loaf(4, 0)", x -> x.loaf(4, 0), UNKNOWN);
        midwayRefused("may(3, 0)", x -> x.may(3, 0), UNKNOWN);
        midwayRefused("may(0, 4)", x -> x.may(0, 4), UNKNOWN);
        midwayRefused("eat(3, 1)", x -> x.eat(3, 1), UNKNOWN);
        midwayRefused("eat(1, 4)", x -> x.eat(1, 4), UNKNOWN);
        midwayRefused("give(4, 1)", x -> x.give(4, 1), UNKNOWN);
        midwayRefused("give(1, 3)", x -> x.give(1, 3), UNKNOWN);
        midwayRefused("give(1, 9)", x -> x.give(1, 9), UNKNOWN);
        midwayRefused("cut(4)", x -> x.cut(4), UNKNOWN);
        alwaysRefused("keep(2)", x -> x.keep(2), UNKNOWN);
        alwaysRefused("again(2)", x -> x.again(2), UNKNOWN);
    }

    private static void outsideChangesNothing() throws Exception {
        Due.sentence("OUTSIDE (another number is not as told)");
        midwayRefused("person(0, 5)", x -> x.person(0, 5), OUTSIDE);
        midwayRefused("person(0, -1)", x -> x.person(0, -1), OUTSIDE);
        midwayRefused("loaf(0, 6)", x -> x.loaf(0, 6), OUTSIDE);
        midwayRefused("loaf(0, -1)", x -> x.loaf(0, -1), OUTSIDE);
        alwaysRefused("forged(0, 9, 5)", x -> x.forged(0, 9, 5, true), OUTSIDE);
        alwaysRefused("forged(100, 9, 5)", x -> x.forged(100, 9, 5, true), OUTSIDE);
        alwaysRefused("forged(6, 0, 5)", x -> x.forged(6, 0, 5, true), OUTSIDE);
        alwaysRefused("forged(6, 100, 5)", x -> x.forged(6, 100, 5, false), OUTSIDE);
        alwaysRefused("forged(6, 9, -1)", x -> x.forged(6, 9, -1, false), OUTSIDE);
        alwaysRefused("forged(6, 9, 11)", x -> x.forged(6, 9, 11, false), OUTSIDE);
        alwaysRefused("help(-1)", x -> x.help(-1, true), OUTSIDE);
        alwaysRefused("help(11)", x -> x.help(11, false), OUTSIDE);
        alwaysRefused("count(-1)", x -> x.count(-1), OUTSIDE);
        alwaysRefused("count(10)", x -> x.count(10), OUTSIDE);
        for (int odd : ODD) {
            midwayRefused("person(0, " + odd + ")", x -> x.person(0, odd), OUTSIDE);
            midwayRefused("loaf(0, " + odd + ")", x -> x.loaf(0, odd), OUTSIDE);
            alwaysRefused("help(" + odd + ")", x -> x.help(odd, true), OUTSIDE);
            alwaysRefused("count(" + odd + ")", x -> x.count(odd), OUTSIDE);
        }
    }

    private static void eatChangesNothing() throws Exception {
        Due.sentence("UNKNOWN; STATE: it may not be.");
        midwayRefused("eat(0, 3): another's, of the dead", x -> x.eat(0, 3), STATE);
        midwayRefused("eat(1, 0): it is EATEN", x -> x.eat(1, 0), STATE);
        midwayRefused("eat(1, 1): the priest has it", x -> x.eat(1, 1), STATE);
        midwayRefused("eat(2, 3): it is BAD, and it did EAT today", x -> x.eat(2, 3), STATE);
        Due.refused(RefusedEdges::full, "eat(1, 0): it is dead", x -> x.eat(1, 0), STATE);
        Due.Setup byLaw = () -> Due.sieged("S155P1P2L1900L1810L2010L0505");
        Due.refused(byLaw, "eat(0, 1): another holds it", x -> x.eat(0, 1), STATE);
        Due.refused(byLaw, "eat(0, 0): another holds the 18", x -> x.eat(0, 0), STATE);
        Due.refused(byLaw, "eat(1, 2): it holds the 18", x -> x.eat(1, 2), STATE);
        Due.refused(byLaw, "eat(0, 3): it is BAD", x -> x.eat(0, 3), STATE);
    }

    private static void giveChangesNothing() throws Exception {
        Due.sentence("STATE: it is EATEN, is there, or that one is dead.");
        midwayRefused("give(0, 2): it is EATEN", x -> x.give(0, 2), STATE);
        midwayRefused("give(0, PRIEST): it is EATEN", x -> x.give(0, PRIEST), STATE);
        midwayRefused("give(3, 2): it is there", x -> x.give(3, 2), STATE);
        midwayRefused("give(1, PRIEST): it is there", x -> x.give(1, PRIEST), STATE);
        midwayRefused("give(3, 0): that one is dead", x -> x.give(3, 0), STATE);
        Due.refused(RefusedEdges::allDead, "give(0, 1): that one is dead", x -> x.give(0, 1), STATE);
        Due.refused(RefusedEdges::allDead, "give(0, PRIEST): it is there", x -> x.give(0, PRIEST), STATE);
    }

    private static void cutChangesNothing() throws Exception {
        Due.sentence("STATE: it is EATEN, or has no figure 9.");
        midwayRefused("cut(0): it is EATEN", x -> x.cut(0), STATE);
        midwayRefused("cut(1): it was CUT", x -> x.cut(1), STATE);
        midwayRefused("cut(3): it has none", x -> x.cut(3), STATE);
        Due.refused(RefusedEdges::full, "cut(1): it has none", x -> x.cut(1), STATE);
        Due.refused(RefusedEdges::allDead, "cut(0): it was CUT", x -> x.cut(0), STATE);
    }

    private static void undoChangesNothing() throws Exception {
        Due.sentence("The last ACT is undone: how many are left. STATE: there is none.");
        Due.refused(RefusedEdges::atFirst, "undo()", x -> x.undo(), STATE);
        Due.refused(() -> Due.sieged("S255P1L0901"), "undo() behind siege()", x -> x.undo(), STATE);
        Due.Setup kept = () -> {
            BreadNumbered x = full();
            x.again(0);
            return x;
        };
        Due.refused(kept, "undo() behind again()", x -> x.undo(), STATE);
        Due.Setup allUndone = () -> {
            BreadNumbered x = midway();
            while (x.count(7) > 0) {
                x.undo();
            }
            x.seed(5);
            return x;
        };
        Due.refused(allUndone, "undo() when all is undone", x -> x.undo(), STATE);
    }

    private static void againChangesNothing() throws Exception {
        Due.sentence("UNKNOWN; STATE: none were kept.");
        Due.refused(RefusedEdges::atFirst, "again(0)", x -> x.again(0), STATE);
        Due.refused(RefusedEdges::atFirst, "again(1)", x -> x.again(1), STATE);
        midwayRefused("again(0)", x -> x.again(0), STATE);
        Due.refused(RefusedEdges::allDead, "again(1)", x -> x.again(1), STATE);
        Due.Setup anew = () -> {
            BreadNumbered x = full();
            Due.tell(x, "S155P0L0900");
            x.siege();
            x.cut(0);
            return x;
        };
        Due.refused(anew, "again(0) behind siege()", x -> x.again(0), STATE);
        Due.refused(anew, "again(1) behind siege()", x -> x.again(1), STATE);
    }

    private static void nobodyChangesNothing() throws Exception {
        Due.sentence("STATE: nobody is alive.");
        for (Due.Setup nobody : new Due.Setup[] {RefusedEdges::atFirst, RefusedEdges::allDead}) {
            Due.refused(nobody, "help(5) of nobody", x -> x.help(5, true), STATE);
            Due.refused(nobody, "best() of nobody", x -> x.best(), STATE);
            Due.refused(nobody, "night() of nobody", x -> x.night(), NONE);
            Due.refused(nobody, "first() of nobody", x -> x.first(), NONE);
            Due.refused(nobody, "lasts() of nobody", x -> x.lasts(), 0);
        }
        Due.sentence("STATE: more than three are alive, or nobody.");
        Due.Setup four = () -> {
            BreadNumbered x = Due.sieged("S255P0P1P2P3P5L0100L0210");
            x.day();
            return x;
        };
        Due.refused(four, "best() of four", x -> x.best(), STATE);
        Due.sentence("STATE: none can have that NUMBER.");
        alwaysRefused("forged(9, 9, 10)", x -> x.forged(9, 9, 10, true), STATE);
        alwaysRefused("forged(50, 49, 5)", x -> x.forged(50, 49, 5, false), STATE);
    }

    // ---- of several the first

    private static void outsideAheadOfFull() throws Exception {
        Due.sentence("REFUSALS, of several the first that a call names");
        Due.refused(RefusedEdges::full, "write(0) at 80", x -> x.write(0, 0), OUTSIDE);
        Due.refused(RefusedEdges::full, "write(9) at 80", x -> x.write(9, 0), OUTSIDE);
        Due.refused(RefusedEdges::full, "write(max) at 80", x -> x.write(Integer.MAX_VALUE, 0), OUTSIDE);
    }

    private static void unknownAheadOfOutside() throws Exception {
        Due.sentence("REFUSALS, of several the first that a call names: UNKNOWN");
        midwayRefused("person(3, 5)", x -> x.person(3, 5), UNKNOWN);
        midwayRefused("person(-1, -1)", x -> x.person(-1, -1), UNKNOWN);
        midwayRefused("loaf(4, 6)", x -> x.loaf(4, 6), UNKNOWN);
        midwayRefused("loaf(-1, -1)", x -> x.loaf(-1, -1), UNKNOWN);
        Due.refused(RefusedEdges::atFirst, "person(0, 5)", x -> x.person(0, 5), UNKNOWN);
        Due.refused(RefusedEdges::atFirst, "loaf(0, 6)", x -> x.loaf(0, 6), UNKNOWN);
    }

    private static void unknownAheadOfState() throws Exception {
        Due.sentence("REFUSALS, of several the first that a call names: UNKNOWN (there is no such PERSON, LOAF, SLOT), "
                + "OUTSIDE (another number is not as told), STATE (as told).");
        midwayRefused("eat(0, 4): the dead, no such LOAF", x -> x.eat(0, 4), UNKNOWN);
        midwayRefused("eat(3, 0): no such PERSON, it is EATEN", x -> x.eat(3, 0), UNKNOWN);
        midwayRefused("give(4, 0): no such LOAF, to the dead", x -> x.give(4, 0), UNKNOWN);
        midwayRefused("give(0, 3): it is EATEN, no such PERSON", x -> x.give(0, 3), UNKNOWN);
        midwayRefused("give(0, 20): it is EATEN, no such PERSON", x -> x.give(0, 20), UNKNOWN);
        midwayRefused("give(4, PRIEST): no such LOAF", x -> x.give(4, PRIEST), UNKNOWN);
        Due.refused(RefusedEdges::atFirst, "again(2): none were kept", x -> x.again(2), UNKNOWN);
        Due.refused(RefusedEdges::atFirst, "again(-1): none were kept", x -> x.again(-1), UNKNOWN);
    }

    private static void outsideAheadOfState() throws Exception {
        Due.sentence("OUTSIDE (another number is not as told), STATE (as told).");
        alwaysRefused("forged(99, 98, 11)", x -> x.forged(99, 98, 11, true), OUTSIDE);
        alwaysRefused("forged(99, 98, -1)", x -> x.forged(99, 98, -1, true), OUTSIDE);
        alwaysRefused("forged(100, 99, 10)", x -> x.forged(100, 99, 10, true), OUTSIDE);
        alwaysRefused("forged(9, 0, 10)", x -> x.forged(9, 0, 10, true), OUTSIDE);
        Due.refused(RefusedEdges::atFirst, "help(11) of nobody", x -> x.help(11, true), OUTSIDE);
        Due.refused(RefusedEdges::allDead, "help(-1) of nobody", x -> x.help(-1, false), OUTSIDE);
    }

    // ---- what only asks

    private static void askingChangesNothing() throws Exception {
        Due.sentence("Nothing is promised beyond the answers and state changes described above");
        for (Due.Setup state : STATES) {
            Due.onlyAsks(state, "fault()", x -> x.fault());
            Due.onlyAsks(state, "person(0, 3)", x -> x.person(0, 3));
            Due.onlyAsks(state, "loaf(0, 0)", x -> x.loaf(0, 0));
            Due.onlyAsks(state, "may(0, 0)", x -> x.may(0, 0));
            Due.onlyAsks(state, "lasts()", x -> x.lasts());
            Due.onlyAsks(state, "first()", x -> x.first());
            Due.onlyAsks(state, "best()", x -> x.best());
            Due.onlyAsks(state, "missing(0)", x -> x.missing(0));
            Due.onlyAsks(state, "missing(-1)", x -> x.missing(-1));
            Due.onlyAsks(state, "forged(6, 9, 5)", x -> x.forged(6, 9, 5, true));
            Due.onlyAsks(state, "help(5)", x -> x.help(5, true));
            Due.onlyAsks(state, "count(7)", x -> x.count(7));
        }
    }
}
