/**
 * Odd numbers in every call, in every state that calls lead to: no call throws, and what is
 * answered is in the bounds that the document sets.
 */
public final class HardCalls {
    private static final int OBJECTS = 3000;
    private static final int CALLS = 512;
    // A text of 80 bytes at most, told byte by byte, is the dearest step.
    private static final int DEAREST = 82;
    private static final int[] ODD = {
        Integer.MIN_VALUE, Integer.MIN_VALUE + 1, -1000, -80, -20, -10, -9, -8, -5, -4, -3, -2, -1,
        0, 1, 2, 3, 4, 5, 6, 7, 8, 9, 10, 11, 12, 15, 16, 19, 20, 21, 31, 32, 33, 63, 64, 79, 80, 81,
        98, 99, 100, 101, 255, 256, 1000, Integer.MAX_VALUE - 1, Integer.MAX_VALUE
    };
    private static final String[] TEXTS = {
        "S099", "S011P1", "S111P0P1P0P1P0", "S299P9P0L0100",
        "S011P0P0P0P0P0L0100L1000L2000L3000L4000L5010L6020L7030L8040L9049",
        "S199P0P0P0L0900L1910L2920L3900L4910L5920L6900L7910L8920L9900",
        "S252P0P0P0L9900L9810L9620L6900L6610L0920L9000L6000L0110L0220",
        "S033P3P3P3L0100L0200L0300L0410L0510L0610L0720L0820L0921", "S0", "S099L", "S055P0L00"
    };

    private static int wrong = 0;
    private static long drawn = 19L;

    public static void main(String[] args) {
        for (int object = 0; object < OBJECTS && wrong < 20; object++) {
            BreadNumbered x = new BreadNumbered();
            for (int calls = 0; calls <= CALLS - DEAREST && wrong < 20; ) {
                calls += hardCall(x, draw(60), object);
            }
        }
        System.out.println(wrong == 0 ? "HardCalls: all as due" : "HardCalls: " + wrong + " wrong");
        if (wrong != 0) {
            System.exit(1);
        }
    }

    private static int draw(int below) {
        drawn = drawn * 0x5DEECE66DL + 11;
        return (int) Math.floorMod(drawn >>> 20, (long) below);
    }

    private static int odd() {
        return draw(2) == 0 ? draw(12) : ODD[draw(ODD.length)];
    }

    private static void within(String call, long got, long least, long most) {
        if (got < least || got > most) {
            wrong++;
            System.out.println(call + " answered " + got + ", due is " + least + " to " + most);
        }
    }

    private static int tell(BreadNumbered x, String text) {
        x.wipe();
        for (int place = 0; place < text.length(); place++) {
            x.write(1, text.charAt(place));
        }
        x.siege();
        return text.length() + 2;
    }

    /** How many calls it took. */
    private static int hardCall(BreadNumbered x, int what, int object) {
        int a = odd();
        int b = odd();
        switch (what) {
            case 0: return tell(x, TEXTS[(object + draw(3)) % TEXTS.length]);
            case 1: within("write", x.write(a, b * 0x9E3779B97F4A7C15L), -4, 80); break;
            case 2: within("wipe", x.wipe(), 0, 80); break;
            case 3: within("fault", x.fault(), -9, 80); break;
            case 4: within("siege", x.siege(), -3, 510); break;
            case 5: within("person", x.person(a, b), -2, 1023); break;
            case 6: within("loaf", x.loaf(a, b), -9, 600); break;
            case 7: within("may", x.may(a, b), -1, 1); break;
            case 8: within("missing", x.missing(a), -9, 98); break;
            case 9: within("forged", x.forged(a, b, odd(), draw(2) == 0), -3, 1000); break;
            case 10: within("help", x.help(a, draw(2) == 0), -3, 1000000000000000000L); break;
            case 11: within("keep", x.keep(a), -1, CALLS); break;
            case 12: within("again", x.again(a), -3, CALLS); break;
            case 13: within("count", x.count(a), -2, CALLS); break;
            case 14: within("lasts", x.lasts(), 0, 19); break;
            case 15: within("first", x.first(), -9, 4); break;
            case 16: within("best", x.best(), -3, 18); break;
            case 17: x.seed(a * 0x9E3779B97F4A7C15L); break;
            case 18: within("undo", x.undo(), -3, 19); break;
            default: hardAct(x, what, a, b); break;
        }
        return 1;
    }

    private static void hardAct(BreadNumbered x, int what, int a, int b) {
        if (what < 30) {
            within("eat", x.eat(a, b), -3, 99);
        } else if (what < 40) {
            within("give", x.give(a, b), -3, 10);
        } else if (what < 46) {
            within("cut", x.cut(a), -3, 96);
        } else if (what < 50) {
            within("day", x.day(), 0, 31);
        } else {
            within("night", x.night(), -9, 49);
        }
    }
}
