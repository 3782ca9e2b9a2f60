/**
 * Each call with the ends of all its numbers, every one with every other, in villages that are
 * empty, full, late, warm and so on; the answer and all that is then there held against the Model.
 */
public final class EdgeTests {
    private static final int LOW = Integer.MIN_VALUE;
    private static final int HIGH = Integer.MAX_VALUE;

    /** A THING, a PART: how many there are hangs on the village. */
    private static final int[] ONE = {LOW, -1, 0, 1, 2, 5, 6, HIGH};
    private static final int[] CELL = {LOW, -1, 0, 11, 12, HIGH};
    private static final int[] KIND = {LOW, -1, 0, 5, 6, HIGH};
    private static final int[] HEIGHT = {LOW, 0, 1, 30, 31, HIGH};
    private static final int[] STRENGTH = {LOW, -1, 0, 9, 10, HIGH};
    private static final int[] TO_TWO = {LOW, -1, 0, 1, 2, 3, HIGH};
    private static final int[] TO_ONE = {LOW, -1, 0, 1, 2, HIGH};
    private static final int[] TO_60 = {LOW, -1, 0, 1, 60, 61, HIGH};
    private static final int[] TO_99 = {-1, 0, 99, 100};
    private static final int[] SHORT_CELL = {-1, 0, 11, 12};
    private static final int[] SHORT_ONE = {-1, 0, 5, 6};
    private static final int[] SHORT_HEIGHT = {0, 1, 30, 31};
    private static final int[] WHICH = {LOW, -2, -1, 0, 1, 5, 6, HIGH};

    private static int cases = 0;

    private EdgeTests() {
    }

    private static final String[] VILLAGES = {"new", "him", "parts", "full", "brim", "late", "warm", "struck", "down", "told"};

    private static void type(Both both, String text) throws ReflectiveOperationException {
        for (int i = 0; i < text.length(); i++) {
            both.call("type", text.charAt(i));
        }
    }

    private static void storms(Both both, int strength) throws ReflectiveOperationException {
        for (int y = 0; y < 6; y++) {
            both.call("storm", y, 0, strength);
        }
    }

    private static void fill(Both both) throws ReflectiveOperationException {
        for (int i = 0; i < 6; i++) {
            both.call("thing", i, 9, i);
            both.call("body", i);
        }
        for (int i = 0; i < 6; i++) {
            both.call("seen", i, i);
            both.call("note", i, 1, 2, 3, i);
            both.call("mark", i, 1, 2, 2 + i);
        }
        type(both, "village;" + Made.repeat(" ", 142));
    }

    private static void later(Both both, int summers) throws ReflectiveOperationException {
        for (int left = summers; left > 0; left -= 60) {
            both.call("summers", Math.min(left, 60));
        }
    }

    private static Both village(String name) throws ReflectiveOperationException {
        Both both = new Both(name);
        switch (name) {
            case "him":
                both.call("thing", 5, 30, 11);
                break;
            case "parts":
                both.call("body", 5);
                both.call("body", 0);
                break;
            case "full":
                fill(both);
                break;
            case "brim":
                fill(both);
                both.call("image", 0);
                for (int i = 0; i < 9; i++) {
                    both.call("takes", i % 6);
                }
                both.call("image", 1);
                both.call("falls", 0, 3);
                break;
            case "late":
                both.call("thing", 3, 30, 0);
                both.call("body", 2);
                both.call("body", 5);
                later(both, 1002);
                storms(both, 3);
                both.call("summers", 1);
                break;
            case "warm":
                both.call("thing", 5, 30, 0);
                both.call("thing", 0, 2, 11);
                storms(both, 9);
                later(both, 112);
                both.call("body", 4);
                both.call("body", 0);
                both.call("image", 1);
                both.call("summers", 1);
                break;
            case "struck":
                fill(both);
                for (int k = 1; k < 6; k++) {
                    both.call("takes", k);
                }
                both.call("storm", 1, 0, 9);
                both.call("summers", 9);
                break;
            case "down":
                both.call("thing", 0, 30, 5);
                both.call("thing", 1, 3, 0);
                both.call("thing", 1, 3, 11);
                both.call("takes", 0);
                both.call("seen", 5, -1);
                both.call("seen", 0, 1);
                both.call("image", 0);
                break;
            case "told":
                type(both, "village;storm0 0 9;storm5 11 1;thing5 30 0;thing2 9 11;part0;part4;part3;part5;take1;summers8;");
                both.call("read");
                both.call("image", 1);
                both.call("type", 'x');
                break;
            default:
                break;
        }
        return both;
    }

    /** All that is there behind the call, and what may be undone, the images, the text. */
    private static boolean sameAll(Both both) throws ReflectiveOperationException {
        boolean same = both.call("digest") && both.call("part", 0) && both.call("part", 1);
        for (int what = 0; what < 3; what++) {
            same = same && both.call("status", what);
        }
        for (int image = -1; image < 2; image++) {
            same = same && (image < 0 || both.call("from", image)) && both.call("digest");
            for (int i = 0; same && i < 9; i++) {
                same = both.call("undo") && both.call("digest");
            }
        }
        return same && both.call("read") && both.call("digest");
    }

    private static void edges(String call, int[]... ends) throws ReflectiveOperationException {
        int all = 1;
        for (int[] one : ends) {
            all *= one.length;
        }
        for (String name : VILLAGES) {
            for (int number = 0; number < all; number++) {
                int[] args = new int[ends.length];
                int rest = number;
                for (int i = 0; i < args.length; i++) {
                    args[i] = ends[i][rest % ends[i].length];
                    rest /= ends[i].length;
                }
                Both both = village(name);
                cases++;
                Check.holds(name + ", " + call, both.call(call, args) && sameAll(both) && both.calls() <= 512);
            }
        }
    }

    public static void main(String[] args) throws ReflectiveOperationException {
        edges("village");
        edges("storm", KIND, CELL, STRENGTH);
        edges("thing", KIND, HEIGHT, CELL);
        edges("body", KIND);
        edges("type", new int[] {LOW, -1, 0, ' ', ';', 127, 128, HIGH});
        edges("clear");
        edges("read");
        edges("summers", TO_60);
        edges("takes", ONE);
        edges("undo");
        edges("of", ONE, new int[] {LOW, -1, 0, 1, 2, 3, 4, HIGH});
        edges("about", ONE, TO_TWO);
        edges("weather", KIND, TO_ONE);
        edges("draws", ONE, CELL);
        edges("struck", CELL);
        edges("then", TO_60);
        edges("when", ONE);
        edges("whence");
        edges("lead", CELL);
        edges("spare");
        edges("order", new int[] {LOW, -1, 0, 1, 4, 99, 100, HIGH}, WHICH);
        edges("seen", CELL, WHICH);
        edges("tall", ONE, TO_TWO);
        edges("note", SHORT_ONE, SHORT_HEIGHT, SHORT_CELL, TO_99, TO_99);
        edges("mark", SHORT_ONE, SHORT_ONE, TO_99, TO_99);
        edges("forget", TO_TWO);
        edges("is", ONE);
        edges("look", ONE);
        edges("kinds", ONE);
        edges("ask", ONE);
        edges("sweep", ONE, WHICH);
        edges("falls", CELL, new int[] {LOW, -1, 0, 1, 9, 10, 11, HIGH});
        edges("septembers", new int[] {LOW, -1, 0, 1, 999999, 1000000, HIGH}, TO_60);
        edges("part", TO_ONE);
        edges("image", TO_ONE);
        edges("from", TO_ONE);
        edges("status", TO_TWO);
        edges("count", new int[] {LOW, -1, 0, 1, 2, 3, 4, 5, 6, 7, 8, 9, 10, 11, HIGH});
        edges("digest");
        System.out.println("  " + cases + " calls");
        Check.end("EdgeTests");
    }
}
