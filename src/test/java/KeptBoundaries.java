/** The boundaries of what may be undone, IMAGES, STATUS, THE FRACTION, and of what is refused. */
final class KeptBoundaries {
    private static final int NONE = SteepleStruck.NONE;
    private static final int BAD = SteepleStruck.BAD;
    private static final int NO = SteepleStruck.NO;
    private static final int FULL = SteepleStruck.FULL;

    private KeptBoundaries() {
    }

    static void all() {
        undoAll();
        undoEight();
        undoEnds();
        images();
        status();
        fraction();
        refusedNumbers();
        refusedFirst();
    }

    private static void due(String what, long got, long want) {
        Check.due(what, got, want);
    }

    private static final String UNDO = "UNDO: what is up, PARTS, CHARGE, the SUMMER as ahead of the last SUMMERS gone by, THING taken down, put up"
        + " (8 at most; behind a STORM told, a THING, a PART that comes none may be).";

    private static void undoAll() {
        Sentences.at(UNDO);
        SteepleStruck x = Made.bodies(Made.stormy(Made.things(5, 30, 0, 0, 1, 0), 7), 0, 0, 0);
        x.summers(1);
        long first = x.digest();
        x.summers(60);
        due("all are there", x.count(3), 3);
        due("charge", x.count(5), 61 * 7 - 12);
        due("60 are one", x.count(9), 2);
        due("undone", x.undo(), 1);
        due("PARTS", x.count(3) * 100 + x.about(0, 1) * 10 + x.about(1, 1), 110);
        due("CHARGE", x.count(5), 3);
        due("as ahead of them", x.digest(), first);
        x.takes(1);
        due("down", x.of(1, 3), 0);
        due("undone", x.undo(), 1);
        due("up", x.of(1, 3), 1);
        due("as ahead of it", x.digest(), first);
        x.takes(1);
        x.takes(1);
        due("put up", x.of(1, 3), 1);
        x.undo();
        due("down as ahead of that", x.of(1, 3), 0);
        x.undo();
        due("undone to the first", x.undo(), 0);
        due("nothing is there", x.count(3) + x.count(5), 0);
        due("NO more", x.undo(), NO);
        // what it does not tell of stays as it is
        x = Made.him();
        x.body(0);
        x.takes(0);
        x.seen(0, 0);
        x.note(0, 1, 2, 3, 4);
        x.mark(0, 1, 2, 3);
        x.type('v');
        x.undo();
        due("SEEN, NOTES, MARKS, bytes", x.count(6) * 1000 + x.count(7) * 100 + x.count(8) * 10 + x.count(10), 1111);
        x.takes(0);
        x.forget(0);
        x.forget(1);
        x.forget(2);
        x.clear();
        x.undo();
        due("none again", x.count(6) + x.count(7) + x.count(8) + x.count(10), 0);
    }

    /** What is up, PARTS, CHARGE, the SUMMER. */
    private static long villageOf(SteepleStruck x) {
        long told = x.count(4) * 1000L + x.count(5);
        for (int i = 0; i < 6; i++) {
            told = told * 4 + x.of(i, 3) * 2 + x.about(i, 1);
        }
        return told;
    }

    private static void undoEight() {
        Sentences.at(UNDO);
        for (int steps = 0; steps <= 10; steps++) {
            SteepleStruck x = Made.him();
            for (int i = 0; i < steps; i++) {
                due("summers", x.summers(1), 0);
            }
            int may = Math.min(steps, 8);
            due("behind " + steps, x.count(9), may);
            for (int i = 1; i <= may; i++) {
                due("undone " + i + " of " + steps, x.undo(), steps - i);
                due("one less", x.count(9), may - i);
            }
            due("no more of " + steps, x.undo(), NO);
            due("where it stays", x.count(4), steps - may);
        }
        // what is up, there, the charge, the summer: each of the last eight as it was
        SteepleStruck x = Made.bodies(Made.stormy(Made.full(), 5), new int[0]);
        long[] ahead = new long[12];
        for (int i = 0; i < 12; i++) {
            ahead[i] = villageOf(x);
            if (i % 2 == 0) {
                x.takes(5 - i / 2);
            } else {
                x.summers(i);
            }
        }
        for (int i = 11; i >= 4; i--) {
            x.undo();
            due("as ahead of step " + i, villageOf(x), ahead[i]);
        }
        due("no more", x.undo(), NO);
        // behind an undo there is room for one more
        x = Made.him();
        for (int i = 0; i < 9; i++) {
            x.takes(0);
        }
        x.undo();
        due("7", x.count(9), 7);
        x.takes(0);
        due("8", x.count(9), 8);
        x.summers(60);
        due("8", x.count(9), 8);
        due("the last one first", x.undo(), 0);
    }

    private static void undoEnds() {
        Sentences.at(UNDO);
        SteepleStruck x = Made.brim();
        due("8", x.count(9), 8);
        x.storm(0, 0, 0);
        due("behind a STORM, even one as it was", x.count(9), 0);
        due("NO", x.undo(), NO);
        x = Made.him();
        x.summers(1);
        x.thing(0, 1, 0);
        due("behind a THING", x.undo(), NO);
        x.summers(1);
        x.body(0);
        due("behind a PART", x.undo(), NO);
        x.summers(1);
        due("the next one may be", x.undo(), 2);
        // refused ones end nothing
        x = Made.brim();
        x.storm(6, 0, 0);
        x.thing(0, 0, 0);
        x.body(6);
        due("BAD ones do not", x.count(9), 8);
        x.thing(0, 1, 0);
        x.body(0);
        due("FULL ones do not", x.count(9), 8);
        // neither does anything else but village, read and from
        x.seen(0, 0);
        x.forget(0);
        x.forget(1);
        x.forget(2);
        x.seen(0, 0);
        x.note(0, 1, 0, 0, 0);
        x.mark(0, 0, 0, 0);
        x.clear();
        x.type('v');
        x.read();
        x.falls(0, 1);
        x.image(0);
        x.image(1);
        due("others do not", x.count(9), 8);
        due("no fault does", x.undo(), 0);
        x.village();
        due("none of an empty village", x.undo(), NO);
    }

    private static void images() {
        Sentences.at("IMAGES 0, 1 keep all but them, THE TEXT, THE FRACTION and STATUS; what may be undone they keep; it goes on from one.");
        SteepleStruck x = Made.some();
        due("image 1 is not kept yet", x.from(1), NO);
        due("image 1", x.image(1), 1);
        long then = x.digest();
        int toUndo = x.count(9);
        due("to undo", toUndo, 2);
        int bytes = x.count(10);
        x.clear();
        Made.typed(x, "x");
        x.falls(0, 1);
        x.struck(12);
        x.undo();
        x.undo();
        x.storm(5, 5, 5);
        x.thing(0, 1, 1);
        x.body(1);
        x.forget(0);
        x.forget(1);
        x.forget(2);
        x.summers(7);
        due("on from image 1", x.from(1), 1);
        due("THE TEXT stays", x.count(10), 1);
        due("THE FRACTION stays", x.part(0) * 100 + x.part(1), 910);
        due("STATUS stays", x.status(0) * 10 + x.status(1), 11);
        due("what may be undone", x.count(9), toUndo);
        Made.typed(x, Made.repeat(" ", bytes - 1));
        x.falls(0, 5);
        due("all else as then", x.digest(), then);
        due("undone", x.undo(), 2);
        due("undone", x.undo(), 0);
        due("no more", x.undo(), NO);
        due("image 0 is what it was", x.from(0), 1);
        due("in summer 0, all up", x.count(4) * 10 + x.count(1), 2);
        due("with nothing to undo", x.undo(), NO);
        due("it does not wear off", x.from(1) + x.from(1), 2);
        due("as then", x.digest(), then);
        // an image of nothing is one, too
        x = new SteepleStruck();
        due("none was kept", x.from(0), NO);
        due("an empty village", x.image(0), 1);
        x.thing(0, 1, 0);
        due("on from it", x.from(0), 1);
        due("no thing", x.count(0), 0);
        due("the other one was not kept", x.from(1), NO);
        for (int i : new int[] {-1, 2}) {
            Whole.bad("image " + i, y -> y.image(i));
            Whole.bad("from " + i, y -> y.from(i));
        }
    }

    private static void statusOf(String what, SteepleStruck x, int bad, int no, int full) {
        due(what + ", BAD", x.status(0), bad);
        due(what + ", NO", x.status(1), no);
        due(what + ", FULL", x.status(2), full);
    }

    private static void status() {
        Sentences.at("STATUS: how many calls were refused as BAD, NO, FULL (each answer told so below is such a one).");
        SteepleStruck x = new SteepleStruck();
        statusOf("at first", x, 0, 0, 0);
        x.struck(12);
        statusOf("a BAD one", x, 1, 0, 0);
        x.undo();
        statusOf("a NO", x, 1, 1, 0);
        for (int i = 0; i < 5; i++) {
            x.seen(0, NONE);
        }
        statusOf("five may be", x, 1, 1, 0);
        x.seen(0, NONE);
        statusOf("a FULL one", x, 1, 1, 1);
        due("-10", x.order(100, 0), -10);
        due("-10", x.sweep(0, 0), -10);
        due("-1", x.status(3), -1);
        statusOf("others count as these", x, 4, 1, 1);
        due("-5", x.order(0, 0), -5);
        due("NONE", x.struck(0), NONE);
        due("NONE", x.lead(0), NONE);
        due("a fault", x.read(), -10);
        x.body(0);
        due("-5", x.sweep(0, 1), -5);
        due("NONE", x.when(0), NONE);
        statusOf("-5, NONE, a FAULT are none of them", x, 4, 1, 1);
        x.village();
        x.image(0);
        x.from(0);
        statusOf("nothing makes it less", x, 4, 1, 1);
    }

    private static long common(long a, long b) {
        return b == 0 ? a : common(b, a % b);
    }

    private static void fraction() {
        Sentences.at("THE FRACTION is 0 by 1 at first; lowest terms, below above 0.");
        SteepleStruck x = new SteepleStruck();
        due("0", x.part(0), 0);
        due("1", x.part(1), 1);
        for (int k = 0; k < 6; k++) {
            x.thing(0, 1 + k, 0);
            for (int c = 0; c <= 10; c++) {
                due("falls", x.falls(0, c), 1);
                due("lowest terms, " + k + " others by " + c, common(x.part(0), x.part(1)), 1);
                Check.holds("below above 0", x.part(1) > 0);
                Check.holds("0 as 0 by 1", x.part(0) != 0 || x.part(1) == 1);
                due("0 at an end", x.part(0) == 0 ? 1 : 0, c == 10 || (c == 0 && k > 0) ? 1 : 0);
            }
        }
        x.falls(0, 5);
        due("a fraction of old stays when one is refused", x.falls(12, 5), BAD);
        due("as it was", x.part(1), 64);
        x.village();
        due("as it was", x.part(1), 64);
        x.falls(0, 5);
        due("0 again", x.part(0), 0);
        due("by 1 again", x.part(1), 1);
    }

    private static final String REFUSED = "Refused, changing nothing but STATUS, the first of: BAD -2 a number is not as told; NO -3 as told; FULL -4"
        + " (where others are told they count as these).";

    private static void refusedNumbers() {
        Sentences.at(REFUSED);
        due("BAD", BAD, -2);
        due("NO", NO, -3);
        due("FULL", FULL, -4);
        due("NONE", NONE, -1);
        due("BAD", new SteepleStruck().type(128), -2);
        due("NO", new SteepleStruck().undo(), -3);
        due("FULL", Made.full().type(0), -4);
        due("BAD of a long", new SteepleStruck().part(2), -2);
    }

    private static void refusedFirst() {
        Sentences.at(REFUSED);
        // where all is full a number that is not as told is BAD all the same
        Whole.refused("thing", Made::brim, y -> y.thing(6, 1, 0), BAD, 0);
        Whole.refused("thing", Made::brim, y -> y.thing(0, 31, 0), BAD, 0);
        Whole.refused("thing", Made::brim, y -> y.thing(0, 1, 12), BAD, 0);
        Whole.refused("thing", Made::brim, y -> y.thing(5, 30, 11), FULL, 2);
        Whole.refused("body", Made::brim, y -> y.body(6), BAD, 0);
        Whole.refused("body", Made::brim, y -> y.body(5), FULL, 2);
        Whole.refused("type", Made::brim, y -> y.type(128), BAD, 0);
        Whole.refused("type", Made::brim, y -> y.type(127), FULL, 2);
        Whole.refused("seen", Made::brim, y -> y.seen(12, 5), BAD, 0);
        Whole.refused("seen", Made::brim, y -> y.seen(11, 6), BAD, 0);
        Whole.refused("seen", Made::brim, y -> y.seen(11, -2), BAD, 0);
        Whole.refused("seen", Made::brim, y -> y.seen(11, 5), FULL, 2);
        Whole.refused("note", Made::brim, y -> y.note(6, 30, 11, 99, 99), BAD, 0);
        Whole.refused("note", Made::brim, y -> y.note(5, 30, 11, 99, 100), BAD, 0);
        Whole.refused("note", Made::brim, y -> y.note(5, 30, 11, 99, 99), FULL, 2);
        Whole.refused("mark", Made::brim, y -> y.mark(6, 5, 99, 99), BAD, 0);
        Whole.refused("mark", Made::brim, y -> y.mark(5, 5, 99, 100), BAD, 0);
        Whole.refused("mark", Made::brim, y -> y.mark(5, 5, 99, 99), FULL, 2);
        // where no image was kept, too
        Whole.refused("from", Made::full, y -> y.from(2), BAD, 0);
        Whole.refused("from", Made::full, y -> y.from(1), NO, 1);
        Whole.refused("undo", Made::full, y -> y.undo(), NO, 1);
        // two numbers that are not as told count once
        Whole.refused("twice BAD", Made::brim, y -> y.note(6, 31, 12, 100, 100), BAD, 0);
        Whole.refused("twice BAD", Made::brim, y -> y.order(100, -2), -10, 0);
    }
}
