import java.util.function.Supplier;

/** The boundaries of each promise's own line: its numbers on both sides, what it answers at its ends. */
final class PromiseBoundaries {
    private static final int NONE = SteepleStruck.NONE;
    private static final int BAD = SteepleStruck.BAD;
    private static final int NO = SteepleStruck.NO;
    private static final int FULL = SteepleStruck.FULL;

    private PromiseBoundaries() {
    }

    static void all() {
        newObject();
        village();
        storm();
        thing();
        body();
        type();
        clear();
        read();
        summers();
        takes();
        undo();
        of();
        about();
        weather();
        strikes();
        ahead();
        leads();
        order();
        seen();
        tall();
        notesAndMarks();
        forget();
        kindsOfThings();
        kindsOfParts();
        sweep();
        chances();
        images();
        status();
        count();
        digest();
    }

    private static void due(String what, long got, long want) {
        Check.due(what, got, want);
    }

    private interface Call {
        long on(SteepleStruck x, int number);
    }

    /** The last numbers that are as told are not refused; the first that are not, and the farthest, are. */
    private static void ends(String what, Supplier<SteepleStruck> made, int least, int most, Call call, long answer) {
        for (int number : new int[] {least, most}) {
            SteepleStruck x = made.get();
            int before = x.status(0);
            Check.holds(what + " " + number + " is as told", call.on(x, number) != answer || answer == NONE);
            due(what + " " + number + " is not counted", x.status(0), before);
        }
        for (int number : new int[] {least - 1, most + 1, Integer.MIN_VALUE, Integer.MAX_VALUE}) {
            Whole.refused(what + " " + number, made, x -> call.on(x, number), answer, 0);
        }
    }

    private static void ends(String what, int least, int most, Call call) {
        ends(what + " of some", Made::some, least, most, call, BAD);
        ends(what + " of all", Made::brim, least, most, call, BAD);
    }

    /** A THING or a PART: there are none, two, six. */
    private static void among(String what, int least, Call call, long answer) {
        for (int number : new int[] {least == 0 ? -1 : -2, 0, 1, 5, Integer.MIN_VALUE, Integer.MAX_VALUE}) {
            Whole.refused(what + " " + number + " of none", SteepleStruck::new, x -> call.on(x, number), answer, 0);
        }
        ends(what + " of two", Made::some, least, 1, call, answer);
        ends(what + " of six", Made::brim, least, 5, call, answer);
    }

    private static void among(String what, Call call) {
        among(what, 0, call, BAD);
    }

    private static void newObject() {
        Sentences.at("`SteepleStruck()`: As told; nothing is there.");
        SteepleStruck x = new SteepleStruck();
        for (int what = 0; what <= 10; what++) {
            due("count(" + what + ")", x.count(what), 0);
        }
        due("no storm", x.weather(0, 0) + x.weather(0, 1) + x.weather(5, 0) + x.weather(5, 1), 0);
        due("0 by 1", x.part(0) * 10 + x.part(1), 1);
        due("STATUS", x.status(0) + x.status(1) + x.status(2), 0);
        due("nothing to undo", x.undo(), NO);
        due("no image 0", x.from(0), NO);
        due("no image 1", x.from(1), NO);
        due("no text", x.read(), -10);
        // another object has nothing of it
        SteepleStruck brim = Made.brim();
        due("all that there may be", brim.count(0), 6);
        Check.holds("a new one beside it", Whole.told(new SteepleStruck()).equals(Whole.told(x)));
    }

    private static void village() {
        Sentences.at("`int village()`: All as at first (but for IMAGES, THE TEXT, THE FRACTION, STATUS): how many THINGS there were.");
        due("0", new SteepleStruck().village(), 0);
        SteepleStruck x = Made.brim();
        x.falls(0, 1);
        x.summers(60);
        due("6", x.village(), 6);
        int[] want = {0, 0, 0, 0, 0, 0, 0, 0, 0, 0, 150};
        for (int what = 0; what <= 10; what++) {
            due("count(" + what + ")", x.count(what), want[what]);
        }
        due("nothing to undo", x.undo(), NO);
        due("0 again", x.village(), 0);
        due("FULL ones are as at first", x.thing(0, 1, 0) + x.body(0) + x.seen(0, 0) + x.note(0, 1, 0, 0, 0) + x.mark(0, 0, 0, 0), 3);
        x = Made.brim();
        x.falls(0, 10);
        x.village();
        SteepleStruck y = Made.typed("village;" + Made.repeat(" ", 142));
        due("THE FRACTION is 0 by 1", x.part(0) * 10 + x.part(1), 1);
        due("all as at first", x.digest(), y.digest());
        due("image 0", x.from(0), 1);
        due("with its eight to undo", x.count(9), 8);
        due("image 1", x.from(1), 1);
        due("with its six things", x.count(0), 6);
        // storms, too
        x = Made.stormy(Made.him(), 9);
        x.village();
        due("no storm", x.weather(0, 1) + x.weather(5, 1), 0);
    }

    private static void storm() {
        Sentences.at("`int storm(int y, int c, int strength)`: The STORM of a summer (0 .. 5): the STRENGTH it had. BAD.");
        ends("summer", 0, 5, (x, y) -> x.storm(y, 0, 0));
        ends("cell", 0, 11, (x, c) -> x.storm(0, c, 0));
        ends("strength", 0, 9, (x, strength) -> x.storm(0, 0, strength));
        SteepleStruck x = new SteepleStruck();
        for (int y = 0; y < 6; y++) {
            due("none at first", x.storm(y, 11 - y, 9 - y), 0);
        }
        for (int y = 5; y >= 0; y--) {
            due("the strength it had", x.storm(y, y, 0), 9 - y);
            due("none now", x.storm(y, y, 0), 0);
        }
    }

    private static void thing() {
        Sentences.at("`int thing(int kind, int height, int c)`: A THING: its number. BAD; FULL: 6.");
        ends("kind", Made::some, 0, 5, (x, kind) -> x.thing(kind, 1, 0), BAD);
        ends("height", Made::some, 1, 30, (x, height) -> x.thing(0, height, 0), BAD);
        ends("cell", Made::some, 0, 11, (x, c) -> x.thing(0, 1, c), BAD);
        SteepleStruck x = new SteepleStruck();
        for (int k = 0; k < 6; k++) {
            due("its number", x.thing(5, 30, 11), k);
        }
        due("a 7th", x.thing(5, 30, 11), FULL);
        due("6", x.count(0), 6);
        x.takes(5);
        due("one that is down is there all the same", x.thing(5, 30, 11), FULL);
    }

    private static void body() {
        Sentences.at("`int body(int kind)`: A PART of HIM: its number. BAD; FULL: 6.");
        ends("kind", Made::some, 0, 5, (x, kind) -> x.body(kind), BAD);
        SteepleStruck x = new SteepleStruck();
        for (int p = 0; p < 6; p++) {
            due("its number", x.body(5), p);
        }
        due("a 7th", x.body(5), FULL);
        due("6", x.count(2), 6);
    }

    private static void type() {
        Sentences.at("`int type(int c)`: A byte (0 .. 127) comes behind THE TEXT: how many it has. BAD; FULL.");
        ends("byte", Made::some, 0, 127, (x, c) -> x.type(c), BAD);
        SteepleStruck x = new SteepleStruck();
        for (int i = 1; i <= 150; i++) {
            due("how many", x.type(i % 2 * 127), i);
        }
        due("a 151st", x.type(127), FULL);
        due("150", x.count(10), 150);
        due("all are there to be cleared", x.clear(), 150);
        due("there is room again", x.type(127), 1);
    }

    private static void clear() {
        Sentences.at("`int clear()`: THE TEXT is empty: how many it had.");
        due("0", new SteepleStruck().clear(), 0);
        SteepleStruck x = Made.full();
        due("150", x.clear(), 150);
        due("0 then", x.clear(), 0);
        due("empty", x.count(10), 0);
        due("empty", x.read(), -10);
        // nothing of the text of old is read behind a shorter one
        Made.typed(x, "village;part 0;part 0;");
        x.clear();
        Made.typed(x, "village;");
        due("one item", x.read(), 1);
        due("no part", x.count(2), 0);
    }

    private static void read() {
        Sentences.at("`int read()`: THE VILLAGE is read: how many ITEMS. -10 less the FAULT: all stays.");
        Whole.refused("of no text", () -> emptied(Made.some()), x -> x.read(), -10, -1);
        Whole.refused("a fault at 0", () -> Made.typed(emptied(Made.brim()), "x"), x -> x.read(), -10, -1);
        Whole.refused("a fault at 1", () -> Made.typed(emptied(Made.brim()), " x"), x -> x.read(), -11, -1);
        Whole.refused("a fault at 149", () -> Made.typed(emptied(Made.brim()), Made.repeat(" ", 149) + "x"), x -> x.read(), -159, -1);
        Whole.refused("a fault at 150", () -> Made.typed(emptied(Made.brim()), Made.repeat(" ", 150)), x -> x.read(), -160, -1);
        Whole.refused("a fault behind much that is good", () -> Made.typed(emptied(Made.brim()), "village;storm0 0 9;thing5 9 0;part0;summers9;take1;"),
            x -> x.read(), -10 - 49, -1);
        due("1 item", Made.typed("village;").read(), 1);
        // of the items that may come again and again take0; is the shortest
        due("many items", Made.typed("village;thing0 1 0;" + Made.repeat("take0;", 21)).read(), 23);
    }

    private static SteepleStruck emptied(SteepleStruck x) {
        x.clear();
        return x;
    }

    private static void summers() {
        Sentences.at("`int summers(int n)`: n SUMMERS go by (1 .. 60; together one that may be undone, also if none goes by; at 999 none goes by):"
            + " how many PARTS are there. BAD.");
        ends("summers", 1, 60, (x, n) -> x.summers(n));
        SteepleStruck x = Made.bodies(Made.stormy(Made.him(), 9), 0, 0, 0, 0, 0, 0);
        due("1 goes by: 9", x.summers(1), 2);
        due("1", x.count(4), 1);
        due("60 go by", x.summers(60), 6);
        due("61", x.count(4), 61);
        due("together one", x.count(9), 2);
        Made.later(x, 938);
        due("999", x.count(4), 999);
        int charge = x.count(5);
        x.type(' ');
        for (int i = 0; i < 9; i++) {
            due("none goes by", x.summers(i == 0 ? 1 : 60), 6);
            due("still 999", x.count(4), 999);
            due("it may be undone all the same", x.count(9), 8);
        }
        due("nothing comes", x.count(5), charge);
        for (int i = 0; i < 8; i++) {
            due("undone: as ahead of it", x.undo(), 999);
        }
        due("no more", x.undo(), NO);
        due("no thing, no part", new SteepleStruck().summers(60), 0);
    }

    private static void takes() {
        Sentences.at("`int takes(int k)`: A THING is taken down, or put up: 1 up then, 0. BAD.");
        among("thing", (x, k) -> x.takes(k));
        SteepleStruck x = Made.full();
        for (int k = 0; k < 6; k++) {
            due("down", x.takes(k), 0);
            due("down", x.of(k, 3), 0);
            due("so many are up", x.count(1), 5 - k);
        }
        for (int k = 0; k < 6; k++) {
            due("up", x.takes(k), 1);
            due("up", x.of(k, 3), 1);
            due("so many are up", x.count(1), 1 + k);
        }
    }

    private static void undo() {
        Sentences.at("`int undo()`: UNDO: the SUMMER then. NO: none may be.");
        Whole.refused("of none", SteepleStruck::new, x -> x.undo(), NO, 1);
        Whole.refused("of all", Made::full, x -> x.undo(), NO, 1);
        SteepleStruck x = Made.later(new SteepleStruck(), 999);
        x.summers(60);
        due("999 then", x.undo(), 999);
        due("960 then", x.undo(), 960);
        x = new SteepleStruck();
        x.summers(1);
        due("0 then", x.undo(), 0);
        due("none may be", x.undo(), NO);
        x.summers(1);
        due("one again", x.undo(), 0);
    }

    private static void of() {
        Sentences.at("`int of(int k, int what)`: Of a THING: KIND (0), HEIGHT (1), CELL (2), up (3; 1, 0). BAD.");
        among("thing", (x, k) -> x.of(k, 0));
        among("thing", (x, k) -> x.of(k, 3));
        ends("what", 0, 3, (x, what) -> x.of(0, what));
        SteepleStruck x = Made.things(0, 1, 0, 5, 30, 11);
        x.takes(0);
        for (int what = 0; what <= 3; what++) {
            due("the least", x.of(0, what), what == 1 ? 1 : 0);
            due("the greatest", x.of(1, what), new int[] {5, 30, 11, 1}[what]);
        }
    }

    private static void about() {
        Sentences.at("`int about(int p, int what)`: Of a PART: KIND (0), there (1; 1, 0), how much it needs now (2). BAD.");
        among("part", (x, p) -> x.about(p, 0));
        among("part", (x, p) -> x.about(p, 2));
        ends("what", 0, 2, (x, what) -> x.about(0, what));
        SteepleStruck x = Made.bodies(Made.stormy(Made.him(), 4), 0, 5, 4);
        due("kind 0", x.about(0, 0), 0);
        due("kind 5", x.about(1, 0), 5);
        due("not there", x.about(0, 1), 0);
        due("4 now", x.about(1, 2), 4);
        due("10 now", x.about(2, 2), 10);
        x.summers(1);
        due("there", x.about(0, 1), 1);
        due("3 now", x.about(1, 2), 3);
        due("12 now", x.about(2, 2), 12);
    }

    private static void weather() {
        Sentences.at("`int weather(int y, int what)`: Of the STORM of a summer (0 .. 5): CELL (0), STRENGTH (1). BAD.");
        ends("summer", 0, 5, (x, y) -> x.weather(y, 0));
        ends("summer", 0, 5, (x, y) -> x.weather(y, 1));
        ends("what", 0, 1, (x, what) -> x.weather(0, what));
        SteepleStruck x = new SteepleStruck();
        x.storm(0, 11, 9);
        x.storm(5, 1, 2);
        due("the first", x.weather(0, 0) * 10 + x.weather(0, 1), 119);
        due("the last", x.weather(5, 0) * 10 + x.weather(5, 1), 12);
        Made.later(x, 7);
        due("whatever summer it is", x.weather(0, 0) * 10 + x.weather(0, 1), 119);
    }

    private static void strikes() {
        Sentences.at("`int draws(int k, int c)`: DRAWS. BAD.");
        among("thing", (x, k) -> x.draws(k, 0));
        ends("cell", 0, 11, (x, c) -> x.draws(0, c));
        due("0, the least", Made.things(0, 1, 0).draws(0, 1), 0);
        due("60, the most", Made.things(2, 30, 0).draws(0, 0), 60);

        Sentences.at("`int struck(int c)`: STRUCK. NONE. BAD.");
        ends("cell", 0, 11, (x, c) -> x.struck(c));
        due("nothing", new SteepleStruck().struck(0), NONE);
        due("HE", Made.him().struck(11), 0);

        Sentences.at("`int whence()`: FROM, as bits (0: there is no THING).");
        due("no thing", new SteepleStruck().whence(), 0);
        due("one", Made.him().whence(), 4095);
        SteepleStruck x = Made.him();
        x.village();
        due("no thing any more", x.whence(), 0);
    }

    private static void ahead() {
        Sentences.at("`int then(int m)`: THEN, as bits. BAD.");
        ends("summers", 0, 60, (x, m) -> x.then(m));
        SteepleStruck x = Made.bodies(Made.stormy(Made.him(), 9), 0, 0, 0, 0, 0, 0);
        due("none", x.then(0), 0);
        due("all six", x.then(60), 63);

        Sentences.at("`int when(int p)`: WHEN. NONE. BAD.");
        among("part", (y, p) -> y.when(p));
        due("in one", x.when(0), 1);
        due("never", Made.bodies(Made.him(), 0).when(0), NONE);
        due("no part, though HE is there", Made.him().when(0), BAD);
    }

    private static void leads() {
        Sentences.at("`int lead(int c)`: LEAD, as bits. NONE (there is no THING, HE is down, too). BAD.");
        ends("cell", 0, 11, (x, c) -> x.lead(c));
        Whole.answers("no thing", SteepleStruck::new, x -> x.lead(11), NONE);
        SteepleStruck x = Made.him();
        due("HE is up", x.lead(0), 0);
        x.takes(0);
        due("HE is down", x.lead(0), NONE);
        due("HE draws nothing", Made.things(0, 1, 0).lead(1), NONE);
        due("no thing, a cell that is none", new SteepleStruck().lead(12), BAD);

        Sentences.at("`int spare()`: SPARE, as bits (0: there is no THING). NONE.");
        Whole.answers("no thing", SteepleStruck::new, y -> y.spare(), 0);
        Whole.answers("HE alone", Made::him, y -> y.spare(), NONE);
    }

    private static void order() {
        Sentences.at("`int order(int c, int k)`: ORDER: how many (k = NONE), the k-th PART. -5: not so many. BAD: -10: k below -1, too.");
        ends("charge of some", Made::some, 0, 99, (x, c) -> x.order(c, NONE), -10);
        ends("charge of all", Made::full, 0, 99, (x, c) -> x.order(c, 5), -10);
        for (int k : new int[] {-2, -3, Integer.MIN_VALUE}) {
            Whole.bad("k " + k, x -> x.order(0, k), -10);
        }
        Whole.answers("how many", Made::full, x -> x.order(0, NONE), 0);
        Whole.answers("the first", Made::full, x -> x.order(0, 0), 0);
        Whole.answers("the last", Made::full, x -> x.order(0, 5), 5);
        Whole.answers("not so many", Made::full, x -> x.order(0, 6), -5);
        Whole.answers("not so many", Made::full, x -> x.order(99, Integer.MAX_VALUE), -5);
        Whole.answers("none at all", SteepleStruck::new, x -> x.order(0, 0), -5);
        Whole.answers("none of none", SteepleStruck::new, x -> x.order(0, NONE), 0);
    }

    private static void seen() {
        Sentences.at("`int seen(int c, int k)`: SEEN: how many there are. BAD; FULL: 5.");
        ends("cell", Made::some, 0, 11, (x, c) -> x.seen(c, NONE), BAD);
        ends("thing of two", Made::some, -1, 1, (x, k) -> x.seen(0, k), BAD);
        ends("thing of none", SteepleStruck::new, -1, -1, (x, k) -> x.seen(0, k), BAD);
        SteepleStruck x = new SteepleStruck();
        for (int i = 1; i <= 5; i++) {
            due("how many", x.seen(11, NONE), i);
        }
        due("a 6th", x.seen(11, NONE), FULL);
        x.forget(0);
        due("room again", x.seen(11, NONE), 1);
    }

    private static void tall() {
        Sentences.at("`int tall(int k, int what)`: TALL: how many (0), the least (1), the greatest (2). NONE. BAD.");
        among("thing", (x, k) -> x.tall(k, 0));
        ends("what", 0, 2, (x, what) -> x.tall(0, what));
        SteepleStruck x = Made.him();
        due("30", x.tall(0, 0), 30);
        due("1", x.tall(0, 1), 1);
        due("30", x.tall(0, 2), 30);
        x.seen(0, NONE);
        due("0", x.tall(0, 0), 0);
        due("none", x.tall(0, 1), NONE);
        due("none", x.tall(0, 2), NONE);
    }

    private static void notesAndMarks() {
        Sentences.at("`int note(int k, int t, int f, int y, int x)`: A NOTE: how many there are. BAD; FULL: 6.");
        ends("thing", Made::some, 0, 1, (x, k) -> x.note(k, 1, 0, 0, 0), BAD);
        ends("height", Made::some, 1, 30, (x, t) -> x.note(0, t, 0, 0, 0), BAD);
        ends("far", Made::some, 0, 11, (x, f) -> x.note(0, 1, f, 0, 0), BAD);
        ends("summer", Made::some, 0, 99, (x, y) -> x.note(0, 1, 0, y, 0), BAD);
        ends("drew", Made::some, 0, 99, (x, drew) -> x.note(0, 1, 0, 0, drew), BAD);
        due("no thing", new SteepleStruck().note(0, 1, 0, 0, 0), BAD);
        SteepleStruck x = Made.him();
        for (int i = 1; i <= 6; i++) {
            due("how many", x.note(0, 30, 11, 99, 99), i);
        }
        due("a 7th", x.note(0, 30, 11, 99, 99), FULL);
        x.forget(1);
        due("room again", x.note(0, 30, 11, 99, 99), 1);

        Sentences.at("`int mark(int p, int n, int y, int x)`: A MARK: how many there are. BAD; FULL: 6.");
        ends("part", Made::some, 0, 1, (z, p) -> z.mark(p, 0, 0, 0), BAD);
        ends("there", Made::some, 0, 5, (z, n) -> z.mark(0, n, 0, 0), BAD);
        ends("summer", Made::some, 0, 99, (z, y) -> z.mark(0, 0, y, 0), BAD);
        ends("needed", Made::some, 0, 99, (z, needed) -> z.mark(0, 0, 0, needed), BAD);
        due("no part", Made.him().mark(0, 0, 0, 0), BAD);
        x.body(0);
        for (int i = 1; i <= 6; i++) {
            due("how many", x.mark(0, 5, 99, 99), i);
        }
        due("a 7th", x.mark(0, 5, 99, 99), FULL);
        x.forget(2);
        due("room again", x.mark(0, 5, 99, 99), 1);
    }

    private static void forget() {
        Sentences.at("`int forget(int what)`: No SEEN ones (0), NOTES (1), MARKS (2): how many there were. BAD.");
        ends("what", 0, 2, (x, what) -> x.forget(what));
        SteepleStruck x = Made.full();
        due("5", x.forget(0), 5);
        due("none, six, six", x.count(6) * 100 + x.count(7) * 10 + x.count(8), 66);
        due("6", x.forget(1), 6);
        due("none, none, six", x.count(6) * 100 + x.count(7) * 10 + x.count(8), 6);
        due("6", x.forget(2), 6);
        due("none", x.count(6) * 100 + x.count(7) * 10 + x.count(8), 0);
        due("0", x.forget(0), 0);
        due("0", x.forget(1), 0);
        due("0", x.forget(2), 0);
    }

    private static void kindsOfThings() {
        Sentences.at("`int is(int k)`: IS, as bits. BAD.");
        among("thing", (x, k) -> x.is(k));
        SteepleStruck x = Made.him();
        due("all", x.is(0), 63);
        x.note(0, 1, 0, 0, 99);
        due("none", x.is(0), 0);

        Sentences.at("`int look(int k)`: LOOK. NONE. BAD.");
        among("thing", (y, k) -> y.look(k));
        due("none", x.look(0), NONE);
        x.forget(1);
        due("of all", x.look(0), 1);
    }

    private static void kindsOfParts() {
        Sentences.at("`int kinds(int p)`: WHAT, as bits. BAD.");
        among("part", (x, p) -> x.kinds(p));
        SteepleStruck x = Made.bodies(new SteepleStruck(), 0);
        due("all", x.kinds(0), 63);
        x.mark(0, 0, 0, 99);
        due("none", x.kinds(0), 0);

        Sentences.at("`int ask(int p)`: ASK. NONE. BAD.");
        among("part", (y, p) -> y.ask(p));
        due("none", x.ask(0), NONE);
        x.forget(2);
        due("of all", x.ask(0), 31);
    }

    private static void sweep() {
        Sentences.at("`int sweep(int p, int k)`: SWEEP: how many (k = NONE), the k-th. -5: not so many. BAD: -10: k below -1, too.");
        among("part", 0, (x, p) -> x.sweep(p, NONE), -10);
        among("part", 0, (x, p) -> x.sweep(p, 0), -10);
        for (int k : new int[] {-2, -3, Integer.MIN_VALUE}) {
            Whole.bad("k " + k, x -> x.sweep(0, k), -10);
        }
        Whole.answers("how many", Made::full, x -> x.sweep(5, NONE), 1);
        Whole.answers("the first", Made::full, x -> x.sweep(5, 0), 99);
        Whole.answers("not so many", Made::full, x -> x.sweep(5, 1), -5);
        Whole.answers("not so many", Made::full, x -> x.sweep(5, Integer.MAX_VALUE), -5);
    }

    private static void chances() {
        Sentences.at("`int falls(int cell, int c)`: FALLS are THE FRACTION: 1. BAD.");
        ends("cell", 0, 11, (x, cell) -> x.falls(cell, 0));
        ends("of 10", 0, 10, (x, c) -> x.falls(0, c));
        due("no thing", new SteepleStruck().falls(11, 10), 1);

        Sentences.at("`int septembers(int seed, int n)`: SEPTEMBERS. BAD.");
        ends("seed", 0, 999999, (x, seed) -> x.septembers(seed, 60));
        ends("summers", 0, 60, (x, n) -> x.septembers(0, n));
        due("no thing", new SteepleStruck().septembers(999999, 60), 0);

        Sentences.at("`long part(int what)`: THE FRACTION: above (0), below (1). BAD.");
        ends("what", 0, 1, (x, what) -> x.part(what));
        SteepleStruck x = Made.him();
        x.falls(0, 3);
        due("above", x.part(0), 7);
        due("below", x.part(1), 10);
    }

    private static void images() {
        Sentences.at("`int image(int i)`: An IMAGE is kept: 1. BAD.");
        ends("image", 0, 1, (x, i) -> x.image(i));
        due("0", new SteepleStruck().image(0), 1);
        due("1", new SteepleStruck().image(1), 1);

        Sentences.at("`int from(int i)`: It goes on from an IMAGE: 1. BAD; NO: none was kept.");
        ends("from", 0, 1, (x, i) -> x.from(i));
        Whole.refused("none was kept", Made::full, x -> x.from(0), NO, 1);
        Whole.refused("none was kept", Made::full, x -> x.from(1), NO, 1);
        Whole.refused("only 0 was kept", Made::some, x -> x.from(1), NO, 1);
        SteepleStruck x = Made.him();
        x.image(1);
        due("only 1 was kept", x.from(0), NO);
        due("it", x.from(1), 1);
        x.image(0);
        due("both", x.from(0) + x.from(1), 2);
    }

    private static void status() {
        Sentences.at("`int status(int what)`: STATUS: BAD (0), NO (1), FULL (2). -1: another what (counts as BAD).");
        ends("what of some", Made::some, 0, 2, (x, what) -> x.status(what), NONE);
        ends("what of all", Made::brim, 0, 2, (x, what) -> x.status(what), NONE);
        SteepleStruck x = new SteepleStruck();
        due("another", x.status(-1), -1);
        due("it counts", x.status(0), 1);
        due("another", x.status(3), -1);
        due("it counts", x.status(0), 2);
        x.undo();
        due("NO", x.status(1), 1);
        Made.typed(x, Made.repeat(" ", 151));
        due("FULL", x.status(2), 1);
    }

    private static void count() {
        Sentences.at("`int count(int what)`: How many: 0 THINGS, 1 of them up, 2 PARTS, 3 of them there, 4 the SUMMER, 5 CHARGE, 6 SEEN, 7 NOTES, 8 MARKS,"
            + " 9 that may be undone, 10 bytes of THE TEXT. BAD.");
        ends("what", 0, 10, (x, what) -> x.count(what));
        SteepleStruck x = Made.full();
        Made.stormy(x, 9);
        x.takes(1);
        Made.later(x, 999);
        int[] most = {6, 5, 6, 0, 999, 0, 5, 6, 6, 8, 150};
        for (int what = 0; what <= 10; what++) {
            due("count(" + what + ")", x.count(what), most[what]);
        }
        x = Made.stormy(Made.him(), 9);
        Made.later(x, 999);
        due("CHARGE", x.count(5), 999);
        x = Made.bodies(Made.stormy(Made.him(), 9), 0, 0, 0, 0, 0, 0);
        x.summers(60);
        due("all are there", x.count(3), 6);
        x.takes(0);
        due("none is up", x.count(1), 0);
    }

    private static long fold(long h, long... values) {
        for (long v : values) {
            h = 31 * h + v;
        }
        return h;
    }

    private static void digest() {
        Sentences.at("`long digest()`: h = 1621; then h = 31 h + v for each v: count(0) to count(10); of six STORMS CELL, STRENGTH; of THINGS KIND, HEIGHT,"
            + " CELL, up (1, 0); of PARTS KIND, there (1, 0); of SEEN c, k (NONE: -1); of NOTES k, t, f, y, x; of MARKS p, n, y, x; THE FRACTION.");
        long h = fold(1621, 0, 0, 0, 0, 0, 0, 0, 0, 0, 0, 0);
        h = fold(h, 0, 0, 0, 0, 0, 0, 0, 0, 0, 0, 0, 0);
        due("nothing is there", new SteepleStruck().digest(), fold(h, 0, 1));
        h = fold(1621, 6, 6, 6, 0, 0, 0, 5, 6, 6, 0, 150);
        h = fold(h, 0, 0, 0, 0, 0, 0, 0, 0, 0, 0, 0, 0);
        for (int i = 0; i < 6; i++) {
            h = fold(h, i, 9, i, 1);
        }
        for (int i = 0; i < 6; i++) {
            h = fold(h, i, 0);
        }
        for (int i = 0; i < 5; i++) {
            h = fold(h, i, i);
        }
        for (int i = 0; i < 6; i++) {
            h = fold(h, i, 1, 2, 3, 4);
        }
        for (int i = 0; i < 6; i++) {
            h = fold(h, i, 1, 2, 3);
        }
        due("all that there may be", Made.full().digest(), fold(h, 0, 1));
        // one up, one down, one there, one not; 7 by 10
        SteepleStruck x = Made.bodies(Made.things(5, 30, 2, 3, 4, 7), 0, 4);
        x.storm(0, 2, 9);
        x.storm(5, 11, 1);
        x.summers(1);
        x.takes(1);
        x.falls(2, 3);
        h = fold(1621, 2, 1, 2, 1, 1, 5, 0, 0, 0, 2, 0);
        h = fold(h, 2, 9, 0, 0, 0, 0, 0, 0, 0, 0, 11, 1);
        due("up, down, there, not there", x.digest(), fold(h, 5, 30, 2, 1, 3, 4, 7, 0, 0, 1, 4, 0, 7, 10));
        x = new SteepleStruck();
        x.seen(0, NONE);
        h = fold(1621, 0, 0, 0, 0, 0, 0, 1, 0, 0, 0, 0);
        h = fold(h, 0, 0, 0, 0, 0, 0, 0, 0, 0, 0, 0, 0);
        due("NONE", x.digest(), fold(h, 0, -1, 0, 1));
        due("it counts in no STATUS", x.status(0) + x.status(1) + x.status(2), 0);
    }
}
