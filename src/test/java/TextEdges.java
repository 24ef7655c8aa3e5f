/** The edges of THE TEXT and THE SIEGE: a test for each sentence that names one. Promises 1 to 5. */
public final class TextEdges {
    private static final int STATE = Due.STATE, OUTSIDE = Due.OUTSIDE, FULL = Due.FULL, NONE = Due.NONE;
    private static final int PRIEST = Due.PRIEST;
    private static final int[] ODD = {-1, 256, Integer.MIN_VALUE, Integer.MIN_VALUE + 8, Integer.MAX_VALUE};

    public static void main(String[] args) throws Exception {
        nobodyNoBread();
        siegeAtFirst();
        dayAtFirst();
        eightyBytes();
        bytesOfACall();
        lowestBytes();
        behindTheText();
        longerThanEighty();
        wiped();
        sAhead();
        law();
        lives();
        badAt();
        noneOrMoreParts();
        signsOfParts();
        fivePeople();
        peopleAsTold();
        fastedDays();
        tenLoaves();
        loavesAsTold();
        twoFigures();
        noTwoAlike();
        personToldAhead();
        ageTold();
        placeFromZero();
        whateverCame();
        lengthSetAside();
        notAtItsEnd();
        noFault();
        textStays();
        nothingOfTheFormer();
        rowAndSlotsGo();
        seedStays();
        hundredTimesPeople();
        faultRefused();
        Due.end("TextEdges");
    }

    private static void faultDue(String text, int want) {
        Due.due("fault() of " + text, Due.told(text).fault(), want);
    }

    /** Each byte there is, 0 to 255, between what is told ahead of it and behind it. */
    private static void figureDue(String ahead, String behind, char least, char most) {
        for (char b = 0; b <= 255; b++) {
            faultDue(ahead + b + behind, b >= least && b <= most ? NONE : ahead.length());
        }
    }

    private static String times(String part, int n) {
        return part.repeat(n);
    }

    private static String loaves(int n) {
        return Due.GREATEST.substring(14, 14 + 5 * n);
    }

    // ---- promise 1, and what is at first

    private static void nobodyNoBread() throws Exception {
        Due.sentence("`BreadNumbered()`: Nobody, no bread.");
        BreadNumbered x = new BreadNumbered();
        Due.due("count(1)", x.count(1), 0);
        Due.due("count(2)", x.count(2), 0);
        Due.due("count(3)", x.count(3), 0);
        Due.due("person(0, 0)", x.person(0, 0), Due.UNKNOWN);
        Due.due("loaf(0, 0)", x.loaf(0, 0), Due.UNKNOWN);
    }

    private static void siegeAtFirst() throws Exception {
        Due.sentence("At first THE SIEGE is S099.");
        BreadNumbered told = Due.sieged("S099");
        told.wipe();
        Due.due("count(9)", new BreadNumbered().count(9), 0);
        Due.alike("a new object is not as one of S099", new BreadNumbered(), told);
    }

    private static void dayAtFirst() throws Exception {
        Due.sentence("THE DAY is 0 at first, and when THE SIEGE is made anew.");
        BreadNumbered x = new BreadNumbered();
        Due.due("count(4) at first", x.count(4), 0);
        x.day();
        Due.due("count(4) behind a day", x.count(4), 1);
        Due.tell(x, "S199P0");
        Due.due("count(4) ahead of siege()", x.count(4), 1);
        x.siege();
        Due.due("count(4) behind siege()", x.count(4), 0);
        x.day();
        x.day();
        Due.due("lasts(), which looks at days ahead", x.lasts(), 8);
        x.siege();
        Due.due("count(4) behind siege() once more", x.count(4), 0);
        x.day();
        Due.tell(x, "S1");
        x.siege();
        Due.due("count(4) behind a refused siege()", x.count(4), 1);
    }

    // ---- promises 2 and 3

    private static void eightyBytes() throws Exception {
        Due.sentence("THE TEXT is bytes (80 at most).");
        BreadNumbered x = new BreadNumbered();
        for (int length = 1; length <= 80; length++) {
            Due.due("write(1) number " + length, x.write(1, 3 * length), length);
        }
        Due.due("write(1) at 80", x.write(1, 'S'), FULL);
        Due.due("count(0)", x.count(0), 80);
        BreadNumbered eights = new BreadNumbered();
        for (int length = 8; length <= 80; length += 8) {
            Due.due("write(8) to " + length, eights.write(8, -1L), length);
        }
        Due.due("count(0)", eights.count(0), 80);
    }

    private static void bytesOfACall() throws Exception {
        Due.sentence("n bytes (1 to 8) of v");
        for (int n = 1; n <= 8; n++) {
            Due.due("write(" + n + ")", new BreadNumbered().write(n, 0), n);
        }
        Due.due("write(0)", new BreadNumbered().write(0, 'S'), OUTSIDE);
        Due.due("write(9)", new BreadNumbered().write(9, 'S'), OUTSIDE);
        for (int n : ODD) {
            Due.due("write(" + n + ")", new BreadNumbered().write(n, 'S'), OUTSIDE);
        }
    }

    private static void lowestBytes() throws Exception {
        Due.sentence("the lowest n, the highest of these first");
        String text = "S234P1P3";
        for (int n = 1; n <= 8; n++) {
            // Behind no shift all of v is told, so there is no higher byte that could spoil it.
            long v = n == 8 ? 0 : -1L;
            BreadNumbered x = Due.told(text.substring(0, 8 - n));
            for (char sign : text.substring(8 - n).toCharArray()) {
                v = v << 8 | sign;
            }
            Due.due("write(" + n + ")", x.write(n, v), 8);
            Due.due("siege() behind write(" + n + ")", x.siege(), 200);
            Due.due("count(9)", x.count(9), 2);
            Due.due("person(0, 0)", x.person(0, 0), 1);
            Due.due("person(1, 0)", x.person(1, 0), 3);
        }
        BreadNumbered high = Due.told("S234");
        high.write(1, 'P' | 128);
        Due.due("fault() of a P with its highest bit", high.fault(), 4);
    }

    private static void behindTheText() throws Exception {
        Due.sentence("come behind THE TEXT: how long it is.");
        BreadNumbered x = new BreadNumbered();
        Due.due("write(8) of none", x.write(8, 0x53303939_50305031L), 8);
        Due.due("write(2)", x.write(2, 0x5032L), 10);
        Due.due("write(1)", x.write(1, 'P'), 11);
        Due.due("fault()", x.fault(), 11);
        Due.due("write(1)", x.write(1, '3'), 12);
        Due.due("siege()", x.siege(), 400);
        for (int person = 0; person <= 3; person++) {
            Due.due("person(" + person + ", 0)", x.person(person, 0), person);
        }
    }

    private static void longerThanEighty() throws Exception {
        Due.sentence("FULL (-4): it would be longer than 80 (nothing comes).");
        Due.due("FULL", BreadNumbered.FULL, -4);
        for (int n = 1; n <= 8; n++) {
            Due.due("write(" + n + ") to 80", Due.told(times("S", 80 - n)).write(n, 0), 80);
            BreadNumbered x = Due.told(times("S", 81 - n));
            Due.due("write(" + n + ") to 81", x.write(n, 0), FULL);
            Due.due("count(0)", x.count(0), 81 - n);
            Due.due("write(" + n + ") at 80", Due.told(times("S", 80)).write(n, 0), FULL);
        }
        BreadNumbered x = Due.told(times("S", 79));
        Due.due("write(2) at 79", x.write(2, 0), FULL);
        Due.due("write(1) behind it", x.write(1, 0), 80);
    }

    private static void wiped() throws Exception {
        Due.sentence("THE TEXT is empty: how long it was.");
        BreadNumbered x = new BreadNumbered();
        Due.due("wipe() of none", x.wipe(), 0);
        x.write(1, 'S');
        Due.due("wipe() of one", x.wipe(), 1);
        Due.due("wipe() once more", x.wipe(), 0);
        Due.tell(x, times("S", 80));
        Due.due("wipe() of 80", x.wipe(), 80);
        Due.due("count(0)", x.count(0), 0);
        Due.due("fault() of none", x.fault(), 0);
        Due.due("write(8) behind it", x.write(8, 0x53303939_50305031L), 8);
        Due.due("fault() behind it", x.fault(), NONE);
        // What was wiped is not read behind a shorter text.
        for (int length = 0; length < Due.GREATEST.length(); length++) {
            String text = Due.GREATEST.substring(0, length);
            BreadNumbered shorter = Due.told(Due.GREATEST);
            Due.tell(shorter, text);
            Due.due("fault() of " + text + " behind a longer one", shorter.fault(), Due.told(text).fault());
            Due.due("siege() of it", shorter.siege(), Due.told(text).siege());
        }
    }

    // ---- promise 4: figures

    private static void sAhead() throws Exception {
        Due.sentence("A SIEGE is a TEXT: S, then three figures");
        figureDue("", "099", 'S', 'S');
        faultDue("SS099", 1);
        faultDue("0S099", 0);
    }

    private static void law() throws Exception {
        Due.sentence("LAW (0 to 2)");
        figureDue("S", "55", '0', '2');
        for (int law = 0; law <= 2; law++) {
            Due.due("count(9)", Due.sieged("S" + law + "55").count(9), law);
        }
    }

    private static void lives() throws Exception {
        Due.sentence("how many days one LIVES without bread (1 to 9)");
        figureDue("S0", "5", '1', '9');
        for (int lives = 1; lives <= 9; lives++) {
            Due.due("lasts() by LIVES " + lives, Due.sieged("S0" + lives + "5P0").lasts(), lives + 1);
        }
    }

    private static void badAt() throws Exception {
        Due.sentence("at how many days a LOAF is BAD (1 to 9)");
        figureDue("S05", "", '1', '9');
        for (int badAt = 1; badAt <= 9; badAt++) {
            BreadNumbered x = Due.sieged("S05" + badAt + "P0L010" + (badAt - 1) + "L020" + badAt);
            Due.due("loaf(0, 3), BAD at " + badAt, x.loaf(0, 3), 0);
            Due.due("loaf(1, 3), BAD at " + badAt, x.loaf(1, 3), 1);
        }
    }

    // ---- promise 4: parts

    private static void noneOrMoreParts() throws Exception {
        Due.sentence("then PARTS, none or more");
        faultDue("S055", NONE);
        faultDue("S055P0", NONE);
        for (int people = 0; people <= 5; people++) {
            for (int loaves = 0; loaves <= (people == 0 ? 0 : 10); loaves++) {
                String text = "S055" + times("P0", people) + loaves(loaves).replaceAll("(L..).(.)", "$10$2");
                faultDue(text, NONE);
            }
        }
        faultDue("S055P0L0100P1L0210P2L0320", NONE);
    }

    private static void signsOfParts() throws Exception {
        Due.sentence("Pf a PERSON");
        for (char b = 0; b <= 255; b++) {
            faultDue("S055" + b, b == 'P' ? 5 : 4);
            faultDue("S055P0" + b, b == 'P' || b == 'L' ? 7 : 6);
            faultDue("S055P0L0100" + b, b == 'P' || b == 'L' ? 12 : 11);
        }
    }

    private static void fivePeople() throws Exception {
        Due.sentence("a PERSON (5 at most");
        faultDue("S055P0P0P0P0", NONE);
        faultDue("S055P0P0P0P0P0", NONE);
        faultDue("S055P0P0P0P0P0P", 14);
        faultDue("S055P0P0P0P0P0P0", 14);
        faultDue("S055P0P0P0P0L0100P0P0", 19);
        faultDue("S055P0P0P0P0P0L0100P0", 19);
        Due.due("siege() of 5", Due.told("S055P0P0P0P0P0").siege(), 500);
        Due.due("siege() of 6", Due.told("S055P0P0P0P0P0P0").siege(), STATE);
    }

    private static void peopleAsTold() throws Exception {
        Due.sentence("a PERSON (5 at most, numbered as they are told)");
        BreadNumbered x = Due.sieged("S099P4L0100P0P9L0220P1P7");
        int[] fasted = {4, 0, 9, 1, 7};
        for (int person = 0; person < 5; person++) {
            Due.due("person(" + person + ", 0)", x.person(person, 0), fasted[person]);
        }
        Due.due("person(0, 3)", x.person(0, 3), 1);
        Due.due("person(2, 3)", x.person(2, 3), 2);
    }

    private static void fastedDays() throws Exception {
        Due.sentence("that has fasted f days (0 to as many as one LIVES)");
        for (char lives = '1'; lives <= '9'; lives++) {
            figureDue("S0" + lives + "5P", "", '0', lives);
            figureDue("S0" + lives + "5P" + lives + "L0100P", "", '0', lives);
            Due.due("person(0, 1)", Due.sieged("S0" + lives + "5P" + lives).person(0, 1), 1);
        }
    }

    private static void tenLoaves() throws Exception {
        Due.sentence("a LOAF (10 at most, likewise)");
        String ten = "S055P0L0100L1000L2000L3000L4000L5000L6000L7000L8000L9000";
        faultDue(ten.substring(0, 51), NONE);
        faultDue(ten, NONE);
        faultDue(ten + "L", 56);
        faultDue(ten + "L9900", 56);
        faultDue(ten + "P0", NONE);
        faultDue(ten + "P0L9900", 58);
        Due.due("siege() of 9", Due.told(ten.substring(0, 51)).siege(), 109);
        Due.due("siege() of 10", Due.told(ten).siege(), 110);
        Due.due("siege() of 11", Due.told(ten + "L9900").siege(), STATE);
    }

    private static void loavesAsTold() throws Exception {
        Due.sentence("a LOAF (10 at most, likewise) of NUMBER nn");
        BreadNumbered x = Due.sieged("S099P0L9900L0101P0L5012L1003L4909L0210L1108L9806L9711L0300");
        int[] numbers = {99, 1, 50, 10, 49, 2, 11, 98, 97, 3};
        int[] holders = {0, 0, 1, 0, 0, 1, 0, 0, 1, 0};
        int[] ages = {0, 1, 2, 3, 9, 0, 8, 6, 1, 0};
        for (int loaf = 0; loaf < 10; loaf++) {
            Due.due("loaf(" + loaf + ", 0)", x.loaf(loaf, 0), numbers[loaf]);
            Due.due("loaf(" + loaf + ", 1)", x.loaf(loaf, 1), holders[loaf]);
            Due.due("loaf(" + loaf + ", 2)", x.loaf(loaf, 2), ages[loaf]);
        }
    }

    private static void twoFigures() throws Exception {
        Due.sentence("NUMBER nn (two figures, 01 to 99");
        figureDue("S055P0L", "100", '0', '9');
        figureDue("S055P0L0", "00", '1', '9');
        figureDue("S055P0L1", "00", '0', '9');
        figureDue("S055P0L9", "00", '0', '9');
        faultDue("S055P0L0000", 8);
        for (int number = 1; number <= 99; number++) {
            String figures = "" + number / 10 + number % 10;
            Due.due("loaf(0, 0)", Due.sieged("S055P0L" + figures + "00").loaf(0, 0), number);
        }
    }

    private static void noTwoAlike() throws Exception {
        Due.sentence("two figures, 01 to 99; no two alike");
        for (int first = 1; first <= 99; first++) {
            for (int second : new int[] {1, first - 1, first, first + 1, 10 * (first % 10) + first / 10, 99}) {
                if (second >= 1 && second <= 99) {
                    String text = String.format("S055P0P0L%02d00L%02d10", first, second);
                    faultDue(text, first == second ? 15 : NONE);
                }
            }
        }
        String ten = "S055P0L0100L1000L2000L3000L4000L5000L6000L7000L8000L9000";
        for (int loaf = 0; loaf < 9; loaf++) {
            String figures = ten.substring(7 + 5 * loaf, 9 + 5 * loaf);
            faultDue(ten.substring(0, 52) + figures + "00", 53);
        }
    }

    private static void personToldAhead() throws Exception {
        Due.sentence("that PERSON p holds (one that was told ahead)");
        for (int people = 1; people <= 5; people++) {
            figureDue("S055" + times("P0", people) + "L01", "0", '0', (char) ('0' + people - 1));
        }
        faultDue("S055P0L0110P0", 9);
        faultDue("S055P0L0100P0L0210", NONE);
        faultDue("S055P0L0100P0L0220P0", 16);
    }

    private static void ageTold() throws Exception {
        Due.sentence("a days old (0 to 9)");
        figureDue("S055P0L010", "", '0', '9');
        for (int age = 0; age <= 9; age++) {
            Due.due("loaf(0, 2)", Due.sieged("S055P0L010" + age).loaf(0, 2), age);
        }
    }

    // ---- promise 4: the place

    private static void placeFromZero() throws Exception {
        Due.sentence("FAULT: the place (from 0 on) of the first byte by which THE TEXT can be no SIEGE");
        for (int place = 0; place < Due.GREATEST.length(); place++) {
            String text = Due.GREATEST.substring(0, place) + '!' + Due.GREATEST.substring(place + 1);
            faultDue(text, place);
            faultDue(text.substring(0, place + 1), place);
        }
        faultDue("!!!!", 0);
        faultDue("S3!!", 1);
    }

    private static void whateverCame() throws Exception {
        Due.sentence("by which THE TEXT can be no SIEGE, whatever came behind it");
        // No LOAF can be told to its end while nobody is there to hold it.
        faultDue("S055L", 4);
        faultDue("S055L0100P0", 4);
        faultDue("S055P0L", 7);
        // No NUMBER that begins with 0 is left when 01 to 09 are told.
        String eight = "S055P0L0100L0200L0300L0400L0500L0600L0700L0800";
        faultDue(eight + "L0", 48);
        faultDue(eight + "L09", 49);
        faultDue(eight + "L0900L", 52);
        faultDue(eight + "L0900L0", 52);
        faultDue(eight + "L0900L0900", 52);
        faultDue(eight + "L0900L1", 53);
        faultDue(eight + "L1000L0", 53);
        faultDue(eight + "L1000L08", 53);
        faultDue("S055P0L1000L1100L1200L1300L1400L1500L1600L1700L1800L1", 53);
        faultDue("S055P0L1000L1100L1200L1300L1400L1500L1600L1700L1800L19", 54);
        // Of each other ten the one with a 0 is left when all nine others are told.
        for (int tens = 1; tens <= 9; tens++) {
            StringBuilder nine = new StringBuilder("S055P0");
            for (int units = 1; units <= 9; units++) {
                nine.append('L').append(tens).append(units).append("00");
            }
            faultDue(nine + "L" + tens, 53);
            faultDue(nine + "L" + tens + "0", 54);
            faultDue(nine + "L" + tens + "000", NONE);
            faultDue(nine + "L" + tens + "9", 53);
        }
    }

    private static void lengthSetAside() throws Exception {
        Due.sentence("whatever came behind it (its length set aside)");
        faultDue(Due.GREATEST, NONE);
        faultDue(Due.GREATEST + "P", 64);
        faultDue(Due.GREATEST + "L", 64);
        faultDue(Due.GREATEST + times("P0", 8), 64);
        Due.due("length", Due.told(Due.GREATEST + times("P0", 8)).count(0), 80);
        faultDue(Due.GREATEST.substring(0, 63) + times("!", 17), 63);
        faultDue("S099" + times("P0", 38), 14);
    }

    private static void notAtItsEnd() throws Exception {
        Due.sentence("its length, if it is only not at its end");
        for (int length = 0; length < Due.GREATEST.length(); length++) {
            boolean isEnd = length == 4 || length > 4 && length <= 14 && length % 2 == 0
                    || length > 14 && (length - 14) % 5 == 0;
            faultDue(Due.GREATEST.substring(0, length), isEnd ? NONE : length);
        }
    }

    private static void noFault() throws Exception {
        Due.sentence("NONE: none.");
        BreadNumbered x = Due.told("S011P1");
        Due.due("fault()", x.fault(), -9);
        Due.due("fault() once more", x.fault(), -9);
        x.write(1, 'P');
        Due.due("fault() of more", x.fault(), 7);
        x.write(1, '0');
        Due.due("fault() of all", x.fault(), -9);
        Due.due("siege()", x.siege(), 200);
    }

    // ---- promise 5

    private static void textStays() throws Exception {
        Due.sentence("THE TEXT (that stays as it is) is THE SIEGE");
        BreadNumbered x = Due.told("S155P2L0100");
        Due.due("siege()", x.siege(), 101);
        Due.due("count(0)", x.count(0), 11);
        Due.due("fault()", x.fault(), NONE);
        x.eat(0, 0);
        x.day();
        Due.due("siege() once more", x.siege(), 101);
        Due.due("person(0, 0)", x.person(0, 0), 2);
        Due.due("person(0, 4)", x.person(0, 4), 0);
        Due.due("loaf(0, 1)", x.loaf(0, 1), 0);
        Due.due("loaf(0, 4)", x.loaf(0, 4), NONE);
        Due.due("loaf(0, 5)", x.loaf(0, 5), NONE);
        x.write(2, 0x5030L);
        Due.due("count(1) till siege()", x.count(1), 1);
        Due.due("siege() of more", x.siege(), 201);
        Due.due("count(0)", x.count(0), 13);
    }

    private static void nothingOfTheFormer() throws Exception {
        Due.sentence("THE TEXT (that stays as it is) is THE SIEGE");
        String[] texts = {"S255P1L0101", "S123P0P1P2L9910L5023", "S099"};
        for (String text : texts) {
            BreadNumbered x = Due.sieged("S212P0P1P0P1P0L9900L9810L9721L9630L9540L9400L9310L9240L9102L9030");
            x.eat(0, 0);
            x.eat(1, 1);
            x.cut(2);
            x.give(3, PRIEST);
            x.day();
            x.eat(4, 4);
            x.night();
            x.keep(0);
            x.keep(1);
            x.lasts();
            x.seed(0);
            Due.tell(x, text);
            x.siege();
            Due.alike(text + " made anew is not as at first", x, Due.sieged(text));
        }
    }

    private static void rowAndSlotsGo() throws Exception {
        Due.sentence("(THE ROW of ACTS is empty, what was kept is gone; THE SEED stays)");
        BreadNumbered x = Due.sieged("S299P0L0100");
        for (int act = 0; act < 25; act++) {
            x.day();
        }
        x.keep(0);
        x.keep(1);
        x.siege();
        Due.due("count(7)", x.count(7), 0);
        Due.due("undo()", x.undo(), STATE);
        Due.due("again(0)", x.again(0), STATE);
        Due.due("again(1)", x.again(1), STATE);
        for (int act = 1; act <= 21; act++) {
            x.day();
            Due.due("count(7)", x.count(7), Math.min(act, 20));
        }
    }

    private static void seedStays() throws Exception {
        Due.sentence("what was kept is gone; THE SEED stays)");
        for (long seed : new long[] {0, -1, Long.MIN_VALUE, Long.MAX_VALUE}) {
            BreadNumbered x = Due.told("S299P0");
            x.seed(seed);
            x.siege();
            Due.due("seed behind siege()", Due.seedOf(x), seed);
            x.night();
            x.siege();
            Due.due("seed behind night() and siege()", Due.seedOf(x), seed * Due.FACTOR + Due.STEP);
        }
    }

    private static void hundredTimesPeople() throws Exception {
        Due.sentence("100 times PEOPLE, and LOAVES.");
        Due.due("siege() of none", Due.told("S055").siege(), 0);
        Due.due("siege() of one", Due.told("S055P0").siege(), 100);
        Due.due("siege() of one with one", Due.told("S055P0L0100").siege(), 101);
        Due.due("siege() of all", Due.told(Due.GREATEST).siege(), 510);
        Due.due("siege() of people", Due.told("S055P0P0P0P0P0").siege(), 500);
        BreadNumbered x = Due.sieged(Due.GREATEST);
        Due.tell(x, "S055");
        Due.due("siege() of none behind all", x.siege(), 0);
        Due.due("count(1)", x.count(1), 0);
        Due.due("count(2)", x.count(2), 0);
        Due.due("person(0, 0)", x.person(0, 0), Due.UNKNOWN);
        Due.due("loaf(0, 0)", x.loaf(0, 0), Due.UNKNOWN);
    }

    private static void faultRefused() throws Exception {
        Due.sentence("STATE: a FAULT.");
        Due.due("siege() of an empty text", new BreadNumbered().siege(), STATE);
        for (int length = 0; length <= Due.GREATEST.length(); length++) {
            BreadNumbered x = Due.told(Due.GREATEST.substring(0, length));
            boolean isFault = x.fault() != NONE;
            Due.due("siege() of " + length + " bytes", x.siege() < 0 ? STATE : 0, isFault ? STATE : 0);
        }
        Due.due("siege() of one byte more", Due.told(Due.GREATEST + "P").siege(), STATE);
        Due.due("siege() of 80 bytes", Due.told(Due.GREATEST + times("P0", 8)).siege(), STATE);
    }
}
