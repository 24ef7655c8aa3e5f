import java.nio.charset.StandardCharsets;

/** For each promise of the document: ordinary inputs, the edges that it names, wrong inputs. */
public final class PromiseTests {
    private static final int UNKNOWN = -1, OUTSIDE = -2, STATE = -3, FULL = -4, NONE = -9;
    private static final int PRIEST = 10, EATEN = 20;
    private static final int[] ODD = {-1, Integer.MIN_VALUE, Integer.MAX_VALUE, 1000};

    private static int wrong = 0;
    private static String promise = "";

    public static void main(String[] args) {
        promise = "constants";
        constants();
        promise = "1";
        newObject();
        promise = "2";
        write();
        promise = "3";
        wipe();
        promise = "4";
        faultOfRules();
        faultOfPeople();
        faultOfLoaves();
        faultOfNumbers();
        promise = "5";
        siege();
        smallerSiege();
        siegeRefused();
        promise = "6";
        person();
        promise = "7";
        loaf();
        loafGrowsOld();
        promise = "8";
        mayByLaw0();
        mayByLaw1();
        mayByLaw2();
        mayNot();
        promise = "9";
        eat();
        promise = "10";
        give();
        promise = "11";
        cut();
        promise = "12";
        day();
        dayOfDeath();
        promise = "13";
        night();
        nightOfTwo();
        nightWithoutTheft();
        promise = "14";
        undo();
        undoOfEachAct();
        promise = "15";
        seed();
        promise = "16";
        lasts();
        lastsByLaw();
        promise = "17";
        first();
        promise = "18";
        best();
        bestRefused();
        promise = "19";
        missing();
        promise = "20";
        forged();
        promise = "21";
        help();
        promise = "22";
        keep();
        promise = "23";
        again();
        promise = "24";
        count();
        promise = "refusals";
        refusedChangesNothing();
        System.out.println(wrong == 0 ? "PromiseTests: all as due" : "PromiseTests: " + wrong + " wrong");
        if (wrong != 0) {
            System.exit(1);
        }
    }

    private static void due(String call, long got, long want) {
        if (got != want) {
            wrong++;
            System.out.println("promise " + promise + ": " + call + " answered " + got + ", due is " + want);
        }
    }

    /** The text is wiped and then told, byte by byte. */
    private static void tell(BreadNumbered x, String text) {
        x.wipe();
        for (byte b : text.getBytes(StandardCharsets.ISO_8859_1)) {
            x.write(1, b & 255);
        }
    }

    private static BreadNumbered sieged(String text) {
        BreadNumbered x = new BreadNumbered();
        tell(x, text);
        if (x.siege() < 0) {
            wrong++;
            System.out.println("promise " + promise + ": the test's own text is no siege: " + text);
        }
        return x;
    }

    private static void faultDue(String text, int want) {
        BreadNumbered x = new BreadNumbered();
        tell(x, text);
        due("fault() of " + text, x.fault(), want);
        due("fault() once more of " + text, x.fault(), want);
        due("siege() of " + text, x.siege() < 0 ? 1 : 0, want == NONE ? 0 : 1);
    }

    private static void constants() {
        due("UNKNOWN", BreadNumbered.UNKNOWN, UNKNOWN);
        due("OUTSIDE", BreadNumbered.OUTSIDE, OUTSIDE);
        due("STATE", BreadNumbered.STATE, STATE);
        due("FULL", BreadNumbered.FULL, FULL);
        due("NONE", BreadNumbered.NONE, NONE);
    }

    private static void newObject() {
        BreadNumbered x = new BreadNumbered();
        for (int what = 0; what <= 9; what++) {
            due("count(" + what + ")", x.count(what), 0);
        }
        due("seed(0)", x.seed(0), 0);
        due("fault()", x.fault(), 0);
        due("person(0, 0)", x.person(0, 0), UNKNOWN);
        due("loaf(0, 0)", x.loaf(0, 0), UNKNOWN);
        due("undo()", x.undo(), STATE);
        due("again(0)", x.again(0), STATE);
        due("again(1)", x.again(1), STATE);
        due("siege()", x.siege(), STATE);
        due("give(0, PRIEST)", x.give(0, PRIEST), UNKNOWN);
        due("night()", x.night(), NONE);
        due("count(7)", x.count(7), 0);
        due("day()", x.day(), 0);
        due("count(4)", x.count(4), 1);
        due("count(7)", x.count(7), 1);
        due("undo()", x.undo(), 0);
        due("count(4)", x.count(4), 0);
    }

    private static void write() {
        BreadNumbered x = new BreadNumbered();
        due("write(0)", x.write(0, 'S'), OUTSIDE);
        due("write(9)", x.write(9, 'S'), OUTSIDE);
        for (int n : ODD) {
            due("write(" + n + ")", x.write(n, 'S'), OUTSIDE);
        }
        due("count(0)", x.count(0), 0);
        due("write(2)", x.write(2, 0x7F7F_5330L), 2);
        due("write(2)", x.write(2, 0x3939L), 4);
        due("fault()", x.fault(), NONE);
        due("write(1)", x.write(1, 0x150L), 5);
        due("write(3)", x.write(3, 0xFF30_5030L), 8);
        due("fault()", x.fault(), NONE);
        due("siege()", x.siege(), 200);

        BreadNumbered eight = new BreadNumbered();
        due("write(8)", eight.write(8, 0x5332_3536_5033_4C30L), 8);
        due("write(7)", eight.write(7, 0x3931_3035_4C37_3430L), 15);
        due("fault()", eight.fault(), 15);
        due("write(1)", eight.write(1, 0xFFL), 16);
        due("fault()", eight.fault(), 15);

        BreadNumbered high = new BreadNumbered();
        high.write(4, 0x53303939L);
        high.write(1, 0xFFFF_FFFF_FFFF_FFD0L);
        due("fault() of a byte 0xD0", high.fault(), 4);
        BreadNumbered all = new BreadNumbered();
        due("write(8, -1)", all.write(8, -1L), 8);
        due("fault() of 0xFF", all.fault(), 0);
        writeUntilFull();
    }

    private static void writeUntilFull() {
        BreadNumbered x = new BreadNumbered();
        for (int part = 1; part <= 9; part++) {
            due("write(8)", x.write(8, 0x5330_3939_5030_5030L), 8 * part);
        }
        due("write(7)", x.write(7, 0), 79);
        due("write(2) at 79", x.write(2, 0), FULL);
        due("write(8) at 79", x.write(8, 0), FULL);
        due("write(9) at 79", x.write(9, 0), OUTSIDE);
        due("count(0)", x.count(0), 79);
        due("write(1) at 79", x.write(1, 0), 80);
        due("write(1) at 80", x.write(1, 0), FULL);
        due("write(0) at 80", x.write(0, 0), OUTSIDE);
        due("count(0)", x.count(0), 80);
        due("fault()", x.fault(), 8);
        due("wipe()", x.wipe(), 80);
    }

    private static void wipe() {
        BreadNumbered x = new BreadNumbered();
        due("wipe()", x.wipe(), 0);
        tell(x, "S123P0");
        due("siege()", x.siege(), 100);
        due("wipe()", x.wipe(), 6);
        due("wipe()", x.wipe(), 0);
        due("count(0)", x.count(0), 0);
        due("fault()", x.fault(), 0);
        due("count(1)", x.count(1), 1);
        due("count(9)", x.count(9), 1);
        tell(x, "S1");
        due("fault()", x.fault(), 2);
    }

    private static void faultOfRules() {
        faultDue("", 0);
        faultDue("s", 0);
        faultDue("P0", 0);
        faultDue("S", 1);
        faultDue("S3", 1);
        faultDue("S/", 1);
        faultDue("S:", 1);
        faultDue("S0", 2);
        faultDue("S00", 2);
        faultDue("S0:", 2);
        faultDue("S01", 3);
        faultDue("S0X9", 2);
        faultDue("S010", 3);
        faultDue("S01/", 3);
        faultDue("S01:", 3);
        faultDue("S011", NONE);
        faultDue("S099", NONE);
        faultDue("S199", NONE);
        faultDue("S291", NONE);
        faultDue("S0999", 4);
        faultDue("S099 ", 4);
        faultDue("S099S", 4);
        faultDue("S099p", 4);
    }

    private static void faultOfPeople() {
        faultDue("S055P", 5);
        faultDue("S055P0", NONE);
        faultDue("S055P5", NONE);
        faultDue("S055P6", 5);
        faultDue("S055P/", 5);
        faultDue("S011P2", 5);
        faultDue("S011P1", NONE);
        faultDue("S099P9", NONE);
        faultDue("S099P:", 5);
        faultDue("S055PP", 5);
        faultDue("S055PL", 5);
        faultDue("S055P0PL0100", 7);
        faultDue("S055P0PL010", 7);
        faultDue("S055P0PP0", 7);
        faultDue("S055P00", 6);
        faultDue("S055P0P0P0P0P0", NONE);
        faultDue("S055P0P0P0P0P0P", 14);
        faultDue("S055P0P0P0P0P0P0", 14);
        faultDue("S055P0P0P0P0P0L0140", NONE);
    }

    private static void faultOfLoaves() {
        faultDue("S055L", 4);
        faultDue("S055L0100P0", 4);
        faultDue("S055P0L", 7);
        faultDue("S055P0L0", 8);
        faultDue("S055P0L01", 9);
        faultDue("S055P0L010", 10);
        faultDue("S055P0L0100", NONE);
        faultDue("S055P0L0109", NONE);
        faultDue("S055P0L010:", 10);
        faultDue("S055P0L010/", 10);
        faultDue("S055P0L011", 9);
        faultDue("S055P0L01/", 9);
        faultDue("S055P0L0110P0", 9);
        faultDue("S055P0P0L0110", NONE);
        faultDue("S055P0P0L0120", 11);
        faultDue("S055P0L0100P0L0210", NONE);
        faultDue("S055P0L0100L0210P0", 14);
        faultDue("S055P0L0100L0110", 13);
        faultDue("S055P0LL", 7);
        faultDue("S055P0LP", 7);
        faultDue("S055P0L01P", 9);
        faultDue("S055P0L0100X", 11);
        faultDue("S055P0L0100l", 11);
        faultDue("S055P0L0100P0P0P0P0P", 19);
        faultDue("S055P0L0100L1000L2000L3000L4000L5000L6000L7000L8000L9000", NONE);
        faultDue("S055P0L0100L1000L2000L3000L4000L5000L6000L7000L8000L9000P0", NONE);
        faultDue("S055P0L0100L1000L2000L3000L4000L5000L6000L7000L8000L9000L", 56);
        faultDue("S055P0L0100L1000L2000L3000L4000L5000L6000L7000L8000L9000P0L", 58);
        faultDue("S055P0P0P0P0P0L0100L1000L2000L3000L4000L5000L6000L7000L8000L9000", NONE);
        faultDue("S055P0P0P0P0P0L0100L1000L2000L3000L4000L5000L6000L7000L8000L9000P", 64);
    }

    private static void faultOfNumbers() {
        faultDue("S055P0L00", 8);
        faultDue("S055P0L0000", 8);
        faultDue("S055P0L/", 7);
        faultDue("S055P0L:", 7);
        faultDue("S055P0L0/", 8);
        faultDue("S055P0L0:", 8);
        faultDue("S055P0L9900", NONE);
        faultDue("S055P0L0100L01", 13);
        faultDue("S055P0L0100L02", 14);
        faultDue("S055P0L0100L0", 13);
        faultDue("S055P0L0100L1000L10", 18);
        faultDue("S055P0L0100L0200L0300L0400L0500L0600L0700L0800L09", 49);
        faultDue("S055P0L0100L0200L0300L0400L0500L0600L0700L0800L0", 48);
        faultDue("S055P0L0100L0200L0300L0400L0500L0600L0700L0800L0900L", 52);
        faultDue("S055P0L0100L0200L0300L0400L0500L0600L0700L0800L0900L0", 52);
        faultDue("S055P0L0100L0200L0300L0400L0500L0600L0700L0800L0900L0900", 52);
        faultDue("S055P0L0100L0200L0300L0400L0500L0600L0700L0800L0900L1", 53);
        faultDue("S055P0L1000L1100L1200L1300L1400L1500L1600L1700L1800L19", 54);
        faultDue("S055P0L1000L1100L1200L1300L1400L1500L1600L1700L1800L18", 53);
    }

    private static void siege() {
        BreadNumbered x = new BreadNumbered();
        x.seed(77);
        tell(x, "S123P1P2P0L5013L1909");
        due("siege()", x.siege(), 302);
        due("count(0)", x.count(0), 20);
        due("fault()", x.fault(), NONE);
        due("count(9)", x.count(9), 1);
        due("count(4)", x.count(4), 0);
        due("seed stays", x.seed(78), 77);
        due("day()", x.day(), 2);
        due("person(1, 1)", x.person(1, 1), 0);
        x.night();
        x.keep(0);
        x.keep(1);
        long drawn = x.seed(5);
        x.seed(drawn);
        due("siege() again", x.siege(), 302);
        due("person(1, 1)", x.person(1, 1), 1);
        due("person(1, 0)", x.person(1, 0), 2);
        due("loaf(0, 1)", x.loaf(0, 1), 1);
        due("count(4)", x.count(4), 0);
        due("count(7)", x.count(7), 0);
        due("undo()", x.undo(), STATE);
        due("again(0)", x.again(0), STATE);
        due("again(1)", x.again(1), STATE);
        due("seed stays again", x.seed(0), drawn);
        tell(x, "S298");
        due("siege() without people", x.siege(), 0);
        due("count(1)", x.count(1), 0);
        due("count(2)", x.count(2), 0);
        due("count(9)", x.count(9), 2);
        tell(x, "S011P0P0P0P0P0L0100L1000L2000L3000L4000L5000L6000L7000L8000L9049");
        due("siege() of all", x.siege(), 510);
        due("loaf(9, 1)", x.loaf(9, 1), 4);
        siegeAfterMeals();
    }

    private static void siegeAfterMeals() {
        BreadNumbered x = sieged("S299P1L0100");
        x.eat(0, 0);
        due("siege()", x.siege(), 101);
        due("person(0, 2)", x.person(0, 2), 0);
        due("person(0, 4)", x.person(0, 4), 0);
        due("loaf(0, 4)", x.loaf(0, 4), NONE);
        due("loaf(0, 5)", x.loaf(0, 5), NONE);
        due("eat(0, 0)", x.eat(0, 0), 1);
        due("lasts()", x.lasts(), 11);
        due("siege() behind lasts()", x.siege(), 101);
        due("count(4)", x.count(4), 0);
        due("person(0, 4)", x.person(0, 4), 0);
        due("person(0, 1)", x.person(0, 1), 1);
    }

    /** What a larger siege left behind is not seen in a smaller one. */
    private static void smallerSiege() {
        BreadNumbered x = sieged("S211P0P0P0P0P0L9900L9800L9710L9610L9520L9430L9340L9200L9100L9000");
        for (int person = 0; person < 5; person++) {
            due("may(" + person + ", 9)", x.may(person, 9), person == 0 ? 1 : 0);
        }
        due("eat(0, 0)", x.eat(0, 0), 99);
        due("count(5)", x.count(5), 1);
        due("eat(1, 2)", x.eat(1, 2), 97);
        due("count(5)", x.count(5), 2);
        due("lasts()", x.lasts(), 3);
        due("first()", x.first(), 0);
        x.day();
        due("count(6)", x.count(6), 8);
        tell(x, "S222P0P1L0211L0100");
        due("siege()", x.siege(), 202);
        due("count(3)", x.count(3), 3);
        due("count(5)", x.count(5), 0);
        due("count(6)", x.count(6), 0);
        due("count(8)", x.count(8), 0);
        due("missing(0)", x.missing(0), NONE);
        due("person(0, 3)", x.person(0, 3), 2);
        due("person(2, 0)", x.person(2, 0), UNKNOWN);
        due("loaf(2, 0)", x.loaf(2, 0), UNKNOWN);
        due("best()", x.best(), 3);
        int thief = (int) (STEP >>> 33) % 2;
        due("night(): the thief has the other's only loaf", x.night(), thief == 0 ? 0 : 11);
        due("person(thief, 3)", x.person(thief, 3), 3);
    }

    private static void siegeRefused() {
        BreadNumbered x = sieged("S123P1P2P0L5013L1909");
        x.seed(9);
        x.day();
        x.keep(1);
        tell(x, "S211P0P0P0P0L0100L");
        due("siege()", x.siege(), STATE);
        due("count(9)", x.count(9), 1);
        due("count(1)", x.count(1), 3);
        due("count(2)", x.count(2), 2);
        due("count(4)", x.count(4), 1);
        due("count(7)", x.count(7), 1);
        due("count(0)", x.count(0), 18);
        due("loaf(0, 0)", x.loaf(0, 0), 50);
        due("again(1)", x.again(1), 1);
        due("seed(0)", x.seed(0), 9);
    }

    private static void person() {
        BreadNumbered x = sieged("S234P0P3P2L2000L1013L3000");
        due("person(0, 0)", x.person(0, 0), 0);
        due("person(1, 0)", x.person(1, 0), 3);
        due("person(2, 0)", x.person(2, 0), 2);
        due("person(1, 1)", x.person(1, 1), 1);
        due("person(0, 2)", x.person(0, 2), 0);
        due("person(0, 3)", x.person(0, 3), 5);
        due("person(1, 3)", x.person(1, 3), 2);
        due("person(2, 3)", x.person(2, 3), 0);
        due("person(0, 4)", x.person(0, 4), 0);
        x.eat(0, 2);
        due("person(0, 0)", x.person(0, 0), 0);
        due("person(0, 2)", x.person(0, 2), 1);
        due("person(0, 3)", x.person(0, 3), 1);
        due("person(0, 4)", x.person(0, 4), 1);
        due("day()", x.day(), 2);
        due("person(1, 0)", x.person(1, 0), 4);
        due("person(1, 1)", x.person(1, 1), 0);
        due("person(1, 3)", x.person(1, 3), 0);
        due("person(0, 2)", x.person(0, 2), 0);
        due("person(0, 0)", x.person(0, 0), 0);
        due("person(2, 0)", x.person(2, 0), 3);
        x.eat(0, 0);
        due("person(0, 4)", x.person(0, 4), 2);
        due("day()", x.day(), 4);
        due("person(1, 0) of the dead", x.person(1, 0), 4);
        due("person(3, 0)", x.person(3, 0), UNKNOWN);
        due("person(3, 9)", x.person(3, 9), UNKNOWN);
        due("person(0, 5)", x.person(0, 5), OUTSIDE);
        for (int odd : ODD) {
            due("person(" + odd + ", 0)", x.person(odd, 0), UNKNOWN);
            due("person(" + odd + ", -1)", x.person(odd, -1), UNKNOWN);
            due("person(0, " + odd + ")", x.person(0, odd), OUTSIDE);
        }
    }

    private static void loaf() {
        BreadNumbered x = sieged("S254P0P0L2004L1915L3013");
        due("loaf(0, 0)", x.loaf(0, 0), 20);
        due("loaf(1, 0)", x.loaf(1, 0), 19);
        due("loaf(0, 1)", x.loaf(0, 1), 0);
        due("loaf(1, 1)", x.loaf(1, 1), 1);
        due("loaf(1, 2)", x.loaf(1, 2), 5);
        due("loaf(0, 3) as old as told", x.loaf(0, 3), 1);
        due("loaf(1, 3) older", x.loaf(1, 3), 1);
        due("loaf(2, 3) younger", x.loaf(2, 3), 0);
        due("loaf(2, 4)", x.loaf(2, 4), NONE);
        due("loaf(2, 5)", x.loaf(2, 5), NONE);
        x.give(0, PRIEST);
        due("loaf(0, 1)", x.loaf(0, 1), PRIEST);
        x.eat(1, 2);
        due("loaf(2, 1)", x.loaf(2, 1), EATEN);
        due("loaf(2, 2)", x.loaf(2, 2), 3);
        due("loaf(2, 4)", x.loaf(2, 4), 1);
        due("loaf(2, 5)", x.loaf(2, 5), 0);
        x.day();
        x.day();
        due("loaf(2, 2) as it was", x.loaf(2, 2), 3);
        due("loaf(2, 3) as it was", x.loaf(2, 3), 0);
        due("loaf(0, 2) with the priest", x.loaf(0, 2), 6);
        due("loaf(1, 2)", x.loaf(1, 2), 7);
        due("loaf(2, 0)", x.loaf(2, 0), 30);
        due("loaf(3, 0)", x.loaf(3, 0), UNKNOWN);
        due("loaf(3, 6)", x.loaf(3, 6), UNKNOWN);
        due("loaf(0, 6)", x.loaf(0, 6), OUTSIDE);
        for (int odd : ODD) {
            due("loaf(" + odd + ", 0)", x.loaf(odd, 0), UNKNOWN);
            due("loaf(" + odd + ", -1)", x.loaf(odd, -1), UNKNOWN);
            due("loaf(0, " + odd + ")", x.loaf(0, odd), OUTSIDE);
        }
        BreadNumbered later = sieged("S299P0L0100");
        later.day();
        later.day();
        later.day();
        later.eat(0, 0);
        due("loaf(0, 5) on day 3", later.loaf(0, 5), 3);
        due("loaf(0, 2) on day 3", later.loaf(0, 2), 3);
    }

    private static void loafGrowsOld() {
        BreadNumbered x = sieged("S299P0P0L0100L0213");
        for (int day = 1; day <= 120; day++) {
            x.day();
            due("loaf(0, 2) on day " + day, x.loaf(0, 2), Math.min(day, 99));
            due("loaf(1, 2) on day " + day, x.loaf(1, 2), Math.min(day + 3, 99));
            due("loaf(0, 3) on day " + day, x.loaf(0, 3), day >= 9 ? 1 : 0);
        }
        due("count(4)", x.count(4), 120);
    }

    private static void mayByLaw0() {
        BreadNumbered x = sieged("S094P0P0L2000L1000L0510L0304");
        due("may(0, 0): 10 is less", x.may(0, 0), 0);
        due("may(0, 1): another's 5 is no matter, its own 3 is bad", x.may(0, 1), 1);
        due("may(1, 2)", x.may(1, 2), 1);
        due("may(0, 3): it is bad", x.may(0, 3), 0);
        due("may(1, 1): another holds it", x.may(1, 1), 0);
        x.give(1, PRIEST);
        due("may(0, 0): 10 is with the priest", x.may(0, 0), 1);
        due("may(0, 1)", x.may(0, 1), 0);
        BreadNumbered alike = sieged("S099P0L1900L1600");
        due("may(0, 0)", alike.may(0, 0), 0);
        BreadNumbered ordered = sieged("S099P0P0L1000L2000L1510");
        due("may(0, 0): the first loaf is the least", ordered.may(0, 0), 1);
        due("may(0, 1): the first loaf is less", ordered.may(0, 1), 0);
        due("may(1, 2): another holds the first", ordered.may(1, 2), 1);
        alike.cut(0);
        due("may(0, 0) of like numbers", alike.may(0, 0), 1);
        due("may(0, 1) of like numbers", alike.may(0, 1), 1);
    }

    private static void mayByLaw1() {
        BreadNumbered ordered = sieged("S199P0P0L1000L2000L1510");
        due("may(0, 0): the first loaf is the least", ordered.may(0, 0), 1);
        due("may(0, 1): the first loaf is less", ordered.may(0, 1), 0);
        due("may(1, 2): another holds the first", ordered.may(1, 2), 0);
        BreadNumbered x = sieged("S194P0P0L2000L1010L0510L0314");
        due("may(0, 0): others hold lesser ones", x.may(0, 0), 0);
        due("may(1, 1): it holds a lesser one", x.may(1, 1), 0);
        due("may(1, 2): the 3 is bad", x.may(1, 2), 1);
        due("may(1, 3)", x.may(1, 3), 0);
        x.eat(1, 2);
        due("may(1, 1): it did eat", x.may(1, 1), 0);
        due("may(0, 0)", x.may(0, 0), 0);
        x.give(1, PRIEST);
        due("may(0, 0): the 10 is with the priest", x.may(0, 0), 1);
        x.give(1, 0);
        due("may(0, 0): it holds the 10 itself", x.may(0, 0), 0);
        due("may(0, 1)", x.may(0, 1), 1);
    }

    private static void mayByLaw2() {
        BreadNumbered x = sieged("S294P0P0L2000L1000L0510L0304");
        due("may(0, 0)", x.may(0, 0), 1);
        due("may(0, 1)", x.may(0, 1), 1);
        due("may(1, 2)", x.may(1, 2), 1);
        due("may(0, 2)", x.may(0, 2), 0);
        due("may(0, 3)", x.may(0, 3), 0);
    }

    private static void mayNot() {
        BreadNumbered x = sieged("S229P2P0L2000L1000L0510");
        due("may(0, 0)", x.may(0, 0), 1);
        x.give(1, PRIEST);
        due("may(0, 1): the priest has it", x.may(0, 1), 0);
        x.eat(0, 0);
        due("may(0, 0): it is eaten", x.may(0, 0), 0);
        x.give(1, 0);
        due("may(0, 1): once a day", x.may(0, 1), 0);
        x.day();
        due("may(0, 1): the next day", x.may(0, 1), 1);
        x.day();
        due("day()", x.day(), 2);
        due("may(1, 2): it is dead", x.may(1, 2), 0);
        due("may(2, 0)", x.may(2, 0), UNKNOWN);
        due("may(0, 3)", x.may(0, 3), UNKNOWN);
        for (int odd : ODD) {
            due("may(" + odd + ", 0)", x.may(odd, 0), UNKNOWN);
            due("may(0, " + odd + ")", x.may(0, odd), UNKNOWN);
        }
    }

    private static void eat() {
        BreadNumbered x = sieged("S053P4P0L2000L1000L0510L0803");
        due("eat(0, 0)", x.eat(0, 0), STATE);
        due("eat(0, 3)", x.eat(0, 3), STATE);
        due("eat(0, 2)", x.eat(0, 2), STATE);
        due("count(7)", x.count(7), 0);
        due("eat(0, 1)", x.eat(0, 1), 10);
        due("count(7)", x.count(7), 1);
        due("count(5)", x.count(5), 1);
        due("person(0, 0)", x.person(0, 0), 0);
        due("person(0, 3)", x.person(0, 3), 9);
        due("eat(0, 0)", x.eat(0, 0), STATE);
        due("eat(1, 2)", x.eat(1, 2), 5);
        due("eat(1, 2)", x.eat(1, 2), STATE);
        due("person(1, 4)", x.person(1, 4), 1);
        x.day();
        due("eat(0, 0)", x.eat(0, 0), 20);
        due("loaf(0, 5)", x.loaf(0, 5), 1);
        due("loaf(0, 4)", x.loaf(0, 4), 0);
        due("person(0, 4)", x.person(0, 4), 2);
        due("eat(2, 0)", x.eat(2, 0), UNKNOWN);
        due("eat(0, 4)", x.eat(0, 4), UNKNOWN);
        for (int odd : ODD) {
            due("eat(" + odd + ", 0)", x.eat(odd, 0), UNKNOWN);
            due("eat(0, " + odd + ")", x.eat(0, odd), UNKNOWN);
        }
        due("count(7)", x.count(7), 4);
        BreadNumbered cut = sieged("S099P0L9900");
        cut.cut(0);
        due("eat(0, 0) of a cut one", cut.eat(0, 0), 69);
    }

    private static void give() {
        BreadNumbered x = sieged("S212P0P1P0L2002L1010L3000");
        due("give(0, 0): it is there", x.give(0, 0), STATE);
        due("give(0, 1): a bad one", x.give(0, 1), 0);
        due("loaf(0, 1)", x.loaf(0, 1), 1);
        due("person(1, 3)", x.person(1, 3), 3);
        due("give(1, PRIEST)", x.give(1, PRIEST), 1);
        due("give(1, PRIEST)", x.give(1, PRIEST), STATE);
        due("give(1, 2)", x.give(1, 2), PRIEST);
        due("loaf(1, 1)", x.loaf(1, 1), 2);
        due("count(7)", x.count(7), 3);
        x.eat(0, 2);
        due("give(2, 1): eaten", x.give(2, 1), STATE);
        due("give(2, PRIEST): eaten", x.give(2, PRIEST), STATE);
        due("give(2, EATEN)", x.give(2, EATEN), UNKNOWN);
        due("day()", x.day(), 2);
        due("give(0, 1): dead", x.give(0, 1), STATE);
        due("give(0, 0)", x.give(0, 0), PRIEST);
        due("give(3, 0)", x.give(3, 0), UNKNOWN);
        due("give(0, 3)", x.give(0, 3), UNKNOWN);
        due("give(0, 4)", x.give(0, 4), UNKNOWN);
        due("give(0, 5)", x.give(0, 5), UNKNOWN);
        due("give(0, 9)", x.give(0, 9), UNKNOWN);
        due("give(0, 11)", x.give(0, 11), UNKNOWN);
        for (int odd : ODD) {
            due("give(" + odd + ", 0)", x.give(odd, 0), UNKNOWN);
            due("give(" + odd + ", PRIEST)", x.give(odd, PRIEST), UNKNOWN);
            due("give(0, " + odd + ")", x.give(0, odd), UNKNOWN);
        }
        due("count(7)", x.count(7), 6);
    }

    private static void cut() {
        BreadNumbered x = sieged("S299P0L0900L1900L9000L9900L9600L6900L8800L4900L9100");
        due("cut(0)", x.cut(0), 6);
        due("cut(0)", x.cut(0), STATE);
        due("cut(1)", x.cut(1), 16);
        due("cut(2)", x.cut(2), 60);
        due("cut(3)", x.cut(3), 69);
        due("loaf(3, 0)", x.loaf(3, 0), 69);
        due("cut(3)", x.cut(3), 66);
        due("cut(3)", x.cut(3), STATE);
        due("cut(4)", x.cut(4), 66);
        due("cut(5)", x.cut(5), 66);
        due("loaf(5, 0)", x.loaf(5, 0), 66);
        due("cut(6)", x.cut(6), STATE);
        due("count(7)", x.count(7), 7);
        x.give(7, PRIEST);
        due("cut(7) with the priest", x.cut(7), 46);
        x.eat(0, 8);
        due("cut(8) eaten", x.cut(8), STATE);
        due("loaf(8, 0)", x.loaf(8, 0), 91);
        due("cut(9)", x.cut(9), UNKNOWN);
        for (int odd : ODD) {
            due("cut(" + odd + ")", x.cut(odd), UNKNOWN);
        }
        due("count(7)", x.count(7), 10);
    }

    private static void day() {
        BreadNumbered x = sieged("S229P0P1L2000L1010");
        x.eat(0, 0);
        due("day()", x.day(), 0);
        due("person(0, 0)", x.person(0, 0), 0);
        due("person(1, 0)", x.person(1, 0), 2);
        due("person(0, 2)", x.person(0, 2), 0);
        due("loaf(1, 2)", x.loaf(1, 2), 1);
        due("loaf(0, 2)", x.loaf(0, 2), 0);
        due("count(4)", x.count(4), 1);
        due("count(7)", x.count(7), 1 + 1);
        due("day()", x.day(), 2);
        due("person(0, 0)", x.person(0, 0), 1);
        due("loaf(1, 1)", x.loaf(1, 1), PRIEST);
        due("loaf(1, 2)", x.loaf(1, 2), 2);
    }

    private static void dayOfDeath() {
        BreadNumbered x = sieged("S139P3P0P3P3L2000L1010L0530L0120L0922L3000");
        due("eat(2, 3)", x.eat(2, 3), 1);
        due("day()", x.day(), 1 + 8);
        due("count(3)", x.count(3), 2 + 4);
        due("loaf(0, 1)", x.loaf(0, 1), PRIEST);
        due("loaf(1, 1)", x.loaf(1, 1), 1);
        due("loaf(2, 1)", x.loaf(2, 1), PRIEST);
        due("loaf(3, 1) stays eaten", x.loaf(3, 1), EATEN);
        due("loaf(4, 1)", x.loaf(4, 1), 2);
        due("loaf(5, 1)", x.loaf(5, 1), PRIEST);
        due("person(0, 0)", x.person(0, 0), 4);
        due("person(0, 4)", x.person(0, 4), 0);
        due("day()", x.day(), 0);
        due("person(0, 0)", x.person(0, 0), 4);
        due("day()", x.day(), 0);
        due("day()", x.day(), 2);
        due("day()", x.day(), 4);
        due("day() of nobody", x.day(), 0);
        due("count(4)", x.count(4), 6);
        due("count(7)", x.count(7), 7);
    }

    private static final long FACTOR = 6364136223846793005L;
    private static final long STEP = 1442695040888963407L;

    private static void night() {
        String text = "S219P0P1P0P0L9000L1010L3030L2033L1530";
        for (long seed = -40; seed <= 40; seed++) {
            BreadNumbered x = sieged(text);
            due("eat(0, 0)", x.eat(0, 0), 90);
            due("eat(2, 3)", x.eat(2, 3), STATE);
            due("give(0, 0)", x.give(0, 0), STATE);
            due("give(4, 2)", x.give(4, 2), 3);
            due("day()", x.day(), 2);
            x.seed(seed);
            long next = seed * FACTOR + STEP;
            int drawn = (int) (next >>> 33);
            int[] alive = {0, 2, 3};
            int thief = alive[drawn % 3];
            // Loaf 1 is with the priest, loaf 0 is eaten: 2 and 3 are held by person 3, 4 by person 2.
            int[] loaves = thief == 0 ? new int[] {2, 3, 4} : thief == 2 ? new int[] {2, 3} : new int[] {4};
            int stolen = loaves[(drawn / 3) % loaves.length];
            due("night() by seed " + seed, x.night(), 10 * thief + stolen);
            due("loaf(" + stolen + ", 1)", x.loaf(stolen, 1), thief);
            due("count(7)", x.count(7), 4);
            due("count(4)", x.count(4), 1);
            due("loaf(4, 2)", x.loaf(4, 2), 1);
            due("seed(0)", x.seed(0), next);
        }
    }

    /** Two hold one loaf each: the thief has the other's, be it the first or the last. */
    private static void nightOfTwo() {
        int firstStolen = 0;
        for (long seed = 0; seed < 40; seed++) {
            BreadNumbered x = sieged("S219P0P0L9000L1010");
            x.seed(seed);
            int thief = (int) ((seed * FACTOR + STEP) >>> 33) % 2;
            due("night() of two by seed " + seed, x.night(), thief == 0 ? 1 : 10);
            due("person(thief, 3)", x.person(thief, 3), 3);
            firstStolen += thief;
        }
        due("each of the two was the thief", firstStolen > 0 && firstStolen < 40 ? 1 : 0, 1);
    }

    private static void nightWithoutTheft() {
        BreadNumbered one = sieged("S219P0L9000");
        one.seed(3);
        due("night() of one", one.night(), NONE);
        due("count(7)", one.count(7), 1);
        due("loaf(0, 1)", one.loaf(0, 1), 0);
        due("seed(0)", one.seed(0), 3 * FACTOR + STEP);
        due("undo()", one.undo(), 0);
        due("seed(0)", one.seed(0), 3);

        BreadNumbered none = sieged("S211P1P1");
        none.seed(3);
        due("night() without bread", none.night(), NONE);
        due("count(7)", none.count(7), 1);
        due("day()", none.day(), 3);
        long before = none.seed(4);
        due("seed", before, 3 * FACTOR + STEP);
        due("night() of nobody", none.night(), NONE);
        due("count(7)", none.count(7), 2);
        due("seed(0)", none.seed(0), 4);

        BreadNumbered priest = sieged("S219P0P0L1000");
        priest.give(0, PRIEST);
        due("night() with the priest's bread", priest.night(), NONE);
        due("loaf(0, 1)", priest.loaf(0, 1), PRIEST);
        due("count(7)", priest.count(7), 2);
        due("seed(0)", priest.seed(0), STEP);
    }

    private static void undo() {
        BreadNumbered x = sieged("S299P0P0L9900");
        due("undo()", x.undo(), STATE);
        for (int act = 1; act <= 25; act++) {
            due("give", x.give(0, act % 2), 1 - act % 2);
            due("count(7)", x.count(7), Math.min(act, 20));
        }
        for (int act = 25; act > 5; act--) {
            due("loaf(0, 1)", x.loaf(0, 1), act % 2);
            due("undo()", x.undo(), act - 6);
        }
        due("loaf(0, 1)", x.loaf(0, 1), 1);
        due("undo()", x.undo(), STATE);
        due("loaf(0, 1)", x.loaf(0, 1), 1);
        for (int day = 1; day <= 45; day++) {
            x.day();
        }
        for (int day = 44; day >= 25; day--) {
            due("undo()", x.undo(), day - 25);
            due("count(4)", x.count(4), day);
        }
        due("undo()", x.undo(), STATE);
        due("count(4)", x.count(4), 25);
        due("day()", x.day(), 0);
        due("undo()", x.undo(), 0);
        due("count(4)", x.count(4), 25);
    }

    private static void undoOfEachAct() {
        BreadNumbered x = sieged("S212P1P0L1900L2010");
        x.seed(11);
        due("eat(0, 0)", x.eat(0, 0), 19);
        x.seed(12);
        tell(x, "S0");
        due("undo() of eat", x.undo(), 0);
        due("seed: whatever was told since", x.seed(11), 11);
        due("the text is no act", x.count(0), 2);
        due("person(0, 0)", x.person(0, 0), 1);
        due("person(0, 2)", x.person(0, 2), 0);
        due("person(0, 4)", x.person(0, 4), 0);
        due("loaf(0, 1)", x.loaf(0, 1), 0);
        due("loaf(0, 4)", x.loaf(0, 4), NONE);
        due("loaf(0, 5)", x.loaf(0, 5), NONE);
        due("cut(0)", x.cut(0), 16);
        due("undo() of cut", x.undo(), 0);
        due("loaf(0, 0)", x.loaf(0, 0), 19);
        due("day()", x.day(), 1);
        due("undo() of day", x.undo(), 0);
        due("person(0, 1)", x.person(0, 1), 1);
        due("person(0, 0)", x.person(0, 0), 1);
        due("loaf(0, 1)", x.loaf(0, 1), 0);
        due("loaf(0, 2)", x.loaf(0, 2), 0);
        due("count(4)", x.count(4), 0);
        int night = x.night();
        due("night() steals", night >= 0 ? 1 : 0, 1);
        due("undo() of night", x.undo(), 0);
        due("seed", x.seed(11), 11);
        due("person(0, 3)", x.person(0, 3), 1);
        due("person(1, 3)", x.person(1, 3), 2);
        due("night() once more", x.night(), night);
        x.undo();
        x.eat(0, 0);
        x.day();
        due("undo() of day", x.undo(), 1);
        due("person(0, 2) ate ahead of it", x.person(0, 2), 1);
        due("seed is no act", x.seed(11), 11);
        due("undo() of eat", x.undo(), 0);
        x.keep(0);
        x.eat(0, 0);
        x.keep(1);
        due("undo() leaves the slots", x.undo(), 0);
        due("again(1)", x.again(1), 0);
        due("loaf(0, 1)", x.loaf(0, 1), EATEN);
    }

    private static void seed() {
        BreadNumbered x = new BreadNumbered();
        due("seed(5)", x.seed(5), 0);
        due("seed(min)", x.seed(Long.MIN_VALUE), 5);
        due("seed(max)", x.seed(Long.MAX_VALUE), Long.MIN_VALUE);
        due("seed(0)", x.seed(0), Long.MAX_VALUE);
        due("count(7)", x.count(7), 0);
    }

    private static void lastsDue(String text, int days, int who) {
        BreadNumbered x = sieged(text);
        due("lasts() of " + text, x.lasts(), days);
        due("first() of " + text, x.first(), who);
        due("lasts() changes nothing: count(4)", x.count(4), 0);
        due("lasts() changes nothing: count(5)", x.count(5), 0);
        due("lasts() changes nothing: count(7)", x.count(7), 0);
    }

    private static void lasts() {
        lastsDue("S099", 0, NONE);
        lastsDue("S211P1", 1, 0);
        lastsDue("S299P0", 10, 0);
        lastsDue("S299P9", 1, 0);
        lastsDue("S219P0P1L1000", 1, 1);
        lastsDue("S219P1P1L1010", 1, 0);
        lastsDue("S219P1P1L1000L2010", 3, 0);
        lastsDue("S299P0L0100L0200L0300L0400L0500L0600L0700L0800L0900", 19, 0);
        lastsDue("S212P0L0100L0200L0300", 4, 0);
        lastsDue("S219P1L0309L0208L0107", 3, 0);
        BreadNumbered x = sieged("S219P1P0L1000L2000");
        x.eat(0, 0);
        due("lasts() behind a meal", x.lasts(), 2);
        due("first()", x.first(), 1);
        due("person(0, 2)", x.person(0, 2), 1);
        x.day();
        x.day();
        due("count(3)", x.count(3), 1);
        due("lasts() of one that is left", x.lasts(), 3);
        due("first()", x.first(), 0);
        x.eat(0, 1);
        due("lasts()", x.lasts(), 3);
        x.day();
        x.day();
        due("day()", x.day(), 1);
        due("lasts() of nobody", x.lasts(), 0);
        due("first()", x.first(), NONE);
        BreadNumbered priest = sieged("S211P0L1000");
        priest.give(0, PRIEST);
        due("lasts() without the priest's", priest.lasts(), 2);
    }

    private static void lastsByLaw() {
        // By law 0 each goes on with what it holds; by law 1 nobody eats ahead of the least number.
        lastsDue("S019P1P1L1000L2010", 3, 0);
        lastsDue("S119P1P1L1000L2010", 3, 0);
        lastsDue("S119P1P1L2000L1010", 1, 0);
        lastsDue("S019P1P1L2000L1010", 3, 0);
        // Person 1's 10 is bad on day 1 only; till then person 0 waits.
        lastsDue("S123P1P0P0L2000L1012L0510L3020", 1 + 1 + 2, 1);
        // The least number first, though it keeps longer than the other, which then goes bad.
        lastsDue("S212P1L1000L2001", 1 + 2, 0);
        lastsDue("S212P1L2000L1001", 1 + 1 + 2, 0);
        // Of like numbers the least loaf: the elder one is left and goes bad.
        BreadNumbered like = sieged("S212P1L1900L1601");
        like.cut(0);
        due("lasts() of like numbers", like.lasts(), 3);
        BreadNumbered turned = sieged("S212P1L1901L1600");
        turned.cut(0);
        due("lasts() of like numbers, turned", turned.lasts(), 4);
    }

    private static void first() {
        lastsDue("S219P0P1P1", 1, 1);
        lastsDue("S219P0P0P0P1P0", 1, 3);
        lastsDue("S219P0P0P0P0P1", 1, 4);
        BreadNumbered x = sieged("S219P1P0P0");
        x.day();
        due("first() behind a death", x.first(), 1);
        due("lasts()", x.lasts(), 1);
    }

    private static void bestDue(String text, int days) {
        BreadNumbered x = sieged(text);
        due("best() of " + text, x.best(), days);
        due("best() changes nothing", x.count(7) + x.count(4) + x.count(5), 0);
    }

    private static void best() {
        bestDue("S299P0", 9);
        bestDue("S299P9", 0);
        bestDue("S211P1", 0);
        bestDue("S211P1P0P1", 0);
        bestDue("S211P0P0P0", 1);
        // One loaf, as late as it keeps: on day 8, then 9 days more.
        bestDue("S099P0L0100", 18);
        bestDue("S099P2L0100", 17);
        bestDue("S099P9L0100", 10);
        bestDue("S091P9L0100", 10);
        bestDue("S091P9L0101", 0);
        // Fewer loaves than would be eaten daily: each second day is enough.
        bestDue("S019P0L0100L0200L0300L0400", 9);
        bestDue("S219P1L0309L0208L0107", 3);
        // Another holds the bread: nobody looks at that.
        bestDue("S019P1P1L0100L0200", 2);
        bestDue("S119P1P1L9900L0100", 2);
        bestDue("S119P1P1L9900", 0);
        bestDue("S129P2P2P2L0100L0200L0300", 3);
        bestDue("S129P2P2P2L0100L0208L0309", 0);
        bestDue("S129P2P2P2L0100L0208L0307", 3);
        BreadNumbered x = sieged("S219P1L0100L0200");
        x.give(1, PRIEST);
        due("best() without the priest's", x.best(), 2);
        x.give(1, 0);
        due("best() with it", x.best(), 4);
        x.eat(0, 0);
        due("best() behind a meal", x.best(), 4);
        x.day();
        due("best() on the next day", x.best(), 3);
        BreadNumbered once = sieged("S212P1L0100L0201");
        due("best()", once.best(), 3);
        once.eat(0, 0);
        due("best(): once a day, the other goes bad", once.best(), 2);
    }

    private static void bestRefused() {
        due("best() of nobody", new BreadNumbered().best(), STATE);
        due("best() of four", sieged("S219P0P0P0P0").best(), STATE);
        BreadNumbered x = sieged("S219P0P0P1P0P1L1010");
        due("best() of five", x.best(), STATE);
        x.day();
        due("best() when three are left", x.best(), 0);
        due("eat(1, 0)", x.eat(1, 0), 10);
        due("best()", x.best(), 0);
        x.day();
        due("best() when one is left", x.best(), 1);
        x.day();
        due("day()", x.day(), 2);
        due("best() when all are dead", x.best(), STATE);
    }

    private static void missing() {
        BreadNumbered x = sieged("S299P0L0500L0200L0900");
        int[] all = {1, 3, 4, 6, 7, 8};
        for (int i = 0; i < all.length; i++) {
            due("missing(" + i + ")", x.missing(i), all[i]);
        }
        due("missing(6)", x.missing(6), NONE);
        for (int odd : ODD) {
            due("missing(" + odd + ")", x.missing(odd), NONE);
        }
        due("count(8)", x.count(8), 6);
        x.eat(0, 2);
        due("missing(5): eaten ones have theirs", x.missing(5), 8);
        due("count(8)", x.count(8), 6);
        x.undo();
        x.cut(2);
        due("missing(3): cut", x.missing(3), NONE);
        due("missing(2)", x.missing(2), 4);
        due("count(8)", x.count(8), 3);
        BreadNumbered full = sieged("S299P0L0300L0100L0200");
        due("missing(0)", full.missing(0), NONE);
        due("count(8)", full.count(8), 0);
        BreadNumbered most = sieged("S299P0L9900");
        due("missing(97)", most.missing(97), 98);
        due("missing(98)", most.missing(98), NONE);
        due("count(8)", most.count(8), 98);
        due("missing(0) without bread", new BreadNumbered().missing(0), NONE);
    }

    private static void forgedDue(int v, int n, int x, int above, int below) {
        BreadNumbered any = new BreadNumbered();
        due("forged(" + v + ", " + n + ", " + x + ", true)", any.forged(v, n, x, true), above);
        due("forged(" + v + ", " + n + ", " + x + ", false)", any.forged(v, n, x, false), below);
    }

    private static void forged() {
        forgedDue(1, 1, 0, 0, 1);
        forgedDue(1, 1, 10, 0, 1);
        forgedDue(6, 9, 10, 1, 2);
        forgedDue(6, 9, 1, 1, 11);
        forgedDue(6, 9, 0, 0, 1);
        forgedDue(6, 8, 10, 0, 1);
        forgedDue(9, 9, 4, 0, 1);
        forgedDue(9, 9, 10, STATE, STATE);
        forgedDue(9, 8, 4, STATE, STATE);
        forgedDue(60, 90, 6, 3, 8);
        forgedDue(66, 99, 1, 1, 6);
        forgedDue(66, 95, 1, 1, 11);
        forgedDue(66, 68, 1, 0, 1);
        forgedDue(69, 99, 10, 1, 1);
        forgedDue(69, 99, 0, 0, 1);
        forgedDue(69, 98, 10, STATE, STATE);
        forgedDue(69, 98, 9, 0, 1);
        forgedDue(69, 99, 4, 2, 5);
        forgedDue(99, 99, 9, 0, 1);
        forgedDue(99, 98, 9, STATE, STATE);
        forgedDue(99, 99, 10, STATE, STATE);
        forgedDue(0, 99, 5, OUTSIDE, OUTSIDE);
        forgedDue(100, 99, 5, OUTSIDE, OUTSIDE);
        forgedDue(99, 0, 5, OUTSIDE, OUTSIDE);
        forgedDue(99, 100, 5, OUTSIDE, OUTSIDE);
        forgedDue(99, 99, -1, OUTSIDE, OUTSIDE);
        forgedDue(99, 99, 11, OUTSIDE, OUTSIDE);
        forgedDue(50, 40, 11, OUTSIDE, OUTSIDE);
        for (int odd : ODD) {
            forgedDue(odd, 50, 5, OUTSIDE, OUTSIDE);
            forgedDue(50, odd, 5, OUTSIDE, OUTSIDE);
            forgedDue(50, 50, odd, OUTSIDE, OUTSIDE);
        }
    }

    private static void helpDue(String text, int x, long above, long below) {
        BreadNumbered siege = sieged(text);
        due("help(" + x + ", true) of " + text, siege.help(x, true), above);
        due("help(" + x + ", false) of " + text, siege.help(x, false), below);
    }

    private static void help() {
        String nineteen = "S299P0L0100L0200L0300L0400L0500L0600L0700L0800L0900";
        helpDue("S211P1", 5, 0, 1);
        helpDue("S211P1", 10, 0, 1);
        helpDue("S211P0", 0, 0, 1);
        helpDue("S211P0", 5, 1, 2);
        helpDue("S211P0", 4, 2, 5);
        helpDue("S211P0", 10, 1, 1);
        helpDue("S221P0", 4, 16, 25);
        helpDue("S221P0P1", 4, 2, 5);
        helpDue("S291P0", 5, 511, 512);
        helpDue(nineteen, 9, 999999999999999999L, 1000000000000000000L);
        helpDue(nineteen, 5, 262143, 262144);
        helpDue(nineteen, 10, 1, 1);
        helpDue(nineteen, 0, 0, 1);
        helpDue(nineteen, 1, 1000000000000000000L - 150094635296999121L, 1000000000000000000L);
        helpDue("S099", 5, STATE, STATE);
        helpDue("S099", 10, STATE, STATE);
        helpDue("S099", 11, OUTSIDE, OUTSIDE);
        helpDue("S211P1", 11, OUTSIDE, OUTSIDE);
        for (int odd : ODD) {
            helpDue("S211P1", odd, OUTSIDE, OUTSIDE);
        }
        BreadNumbered dead = sieged("S211P1L0100");
        dead.day();
        due("help(5, true) of the dead", dead.help(5, true), STATE);
    }

    private static void keep() {
        BreadNumbered x = sieged("S299P0L0900");
        due("keep(0)", x.keep(0), 0);
        x.day();
        x.day();
        due("keep(1)", x.keep(1), 2);
        due("count(7)", x.count(7), 2);
        due("keep(2)", x.keep(2), UNKNOWN);
        for (int odd : ODD) {
            due("keep(" + odd + ")", x.keep(odd), UNKNOWN);
        }
        due("again(0)", x.again(0), 0);
        x.day();
        due("keep(0) over what was kept", x.keep(0), 1);
        due("again(1)", x.again(1), 2);
        due("again(0)", x.again(0), 1);
    }

    private static void again() {
        BreadNumbered x = sieged("S229P2P0L0900L1910L3000");
        x.seed(123);
        x.eat(0, 0);
        x.cut(1);
        x.give(2, PRIEST);
        due("keep(1)", x.keep(1), 0);
        x.day();
        x.seed(9);
        x.day();
        due("day()", x.day(), 2);
        due("again(0)", x.again(0), STATE);
        due("count(3)", x.count(3), 1);
        due("count(7)", x.count(7), 6);
        tell(x, "S0");
        due("again(1)", x.again(1), 0);
        due("count(0): the text is not kept", x.count(0), 2);
        due("count(3)", x.count(3), 3);
        due("count(4)", x.count(4), 0);
        due("count(7)", x.count(7), 0);
        due("undo()", x.undo(), STATE);
        due("seed", x.seed(123), 123);
        due("person(0, 2)", x.person(0, 2), 1);
        due("person(0, 4)", x.person(0, 4), 1);
        due("loaf(0, 1)", x.loaf(0, 1), EATEN);
        due("loaf(1, 0)", x.loaf(1, 0), 16);
        due("loaf(1, 1)", x.loaf(1, 1), 1);
        due("loaf(2, 1)", x.loaf(2, 1), PRIEST);
        x.day();
        x.undo();
        x.day();
        due("again(1) once more", x.again(1), 0);
        due("person(0, 2)", x.person(0, 2), 1);
        due("again(2)", x.again(2), UNKNOWN);
        for (int odd : ODD) {
            due("again(" + odd + ")", x.again(odd), UNKNOWN);
        }
        BreadNumbered empty = new BreadNumbered();
        empty.keep(0);
        empty.day();
        due("again(0) without a siege told", empty.again(0), 0);
        due("count(4)", empty.count(4), 0);
    }

    private static void count() {
        BreadNumbered x = sieged("S123P1P0P2L2000L1013L0510L3003L9925");
        int[] atFirst = {35, 3, 5, 7, 0, 0, 3, 0, 94, 1};
        for (int what = 0; what <= 9; what++) {
            due("count(" + what + ")", x.count(what), atFirst[what]);
        }
        due("eat(1, 2)", x.eat(1, 2), 5);
        due("give(3, PRIEST)", x.give(3, PRIEST), 0);
        due("day()", x.day(), 4);
        x.day();
        x.day();
        int[] later = {35, 3, 5, 2, 3, 1, 4, 5, 94, 1};
        for (int what = 0; what <= 9; what++) {
            due("count(" + what + ") later", x.count(what), later[what]);
        }
        due("count(10)", x.count(10), OUTSIDE);
        for (int odd : ODD) {
            due("count(" + odd + ")", x.count(odd), OUTSIDE);
        }
        due("count(9) of law 2", sieged("S211").count(9), 2);
        due("count(9) of law 0", sieged("S011").count(9), 0);
    }

    private static void refusedChangesNothing() {
        BreadNumbered x = sieged("S022P2P0P1L0900L1910L3012");
        x.seed(42);
        x.eat(0, 0);
        x.day();
        x.keep(0);
        tell(x, "S022P2P0P1L09");
        String whole = told(x);
        x.siege();
        x.write(-5, 1);
        x.write(0, 1);
        x.write(9, 1);
        x.person(9, 0);
        x.loaf(9, 0);
        x.may(9, 9);
        x.eat(0, 0);
        x.eat(1, 2);
        x.eat(9, 1);
        x.give(0, 1);
        x.give(1, 1);
        x.give(1, 7);
        x.give(8, 1);
        x.cut(0);
        x.cut(2);
        x.cut(12);
        x.missing(-1);
        x.forged(0, 0, 0, true);
        x.help(-1, true);
        x.keep(2);
        x.again(1);
        x.again(-1);
        x.count(99);
        x.lasts();
        x.first();
        x.best();
        due("all is as it was", whole.equals(told(x)) ? 1 : 0, 1);
    }

    /** All that can be asked without changing anything. */
    private static String told(BreadNumbered x) {
        StringBuilder all = new StringBuilder();
        for (int what = 0; what <= 9; what++) {
            all.append(x.count(what)).append(' ');
        }
        for (int person = 0; person < x.count(1); person++) {
            for (int what = 0; what <= 4; what++) {
                all.append(x.person(person, what)).append(' ');
            }
        }
        for (int loaf = 0; loaf < x.count(2); loaf++) {
            for (int what = 0; what <= 5; what++) {
                all.append(x.loaf(loaf, what)).append(' ');
            }
        }
        long seed = x.seed(0);
        x.seed(seed);
        return all.append(seed).append(' ').append(x.fault()).toString();
    }
}
