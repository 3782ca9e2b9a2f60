import java.util.function.ToLongFunction;

/** The boundaries that stand under Terms behind "======== 2", but for what is kept and refused. */
final class LookBoundaries {
    private static final int NONE = SteepleStruck.NONE;
    private static final int FULL = SteepleStruck.FULL;

    private LookBoundaries() {
    }

    static void all() {
        nothingIsChanged();
        beyondTheLastSummer();
        draws();
        struck();
        then();
        when();
        from();
        lead();
        spare();
        order();
        seen();
        tall();
        notes();
        is();
        look();
        marks();
        what();
        ask();
        sweep();
        falls();
        septembers();
        septemberStorms();
    }

    private static void due(String what, long got, long want) {
        Check.due(what, got, want);
    }

    private static void looks(String what, ToLongFunction<SteepleStruck> call) {
        Whole.answers(what + " of some", Made::some, call, call.applyAsLong(Made.some()));
        Whole.answers(what + " of all", Made::brim, call, call.applyAsLong(Made.brim()));
        Whole.answers(what + " in 999", () -> Made.later(Made.some(), 999), call, call.applyAsLong(Made.later(Made.some(), 999)));
    }

    private static void nothingIsChanged() {
        Sentences.at("(Nothing is changed by these; SUMMERS go beyond 999 in them.)");
        looks("draws", x -> x.draws(0, 0));
        looks("struck", x -> x.struck(0));
        looks("then", x -> x.then(60));
        looks("when", x -> x.when(0));
        looks("whence", x -> x.whence());
        looks("lead", x -> x.lead(0));
        looks("spare", x -> x.spare());
        looks("order, how many", x -> x.order(99, NONE));
        looks("order, which", x -> x.order(99, 0));
        looks("tall", x -> x.tall(0, 1));
        looks("is", x -> x.is(0));
        looks("look", x -> x.look(0));
        looks("kinds", x -> x.kinds(0));
        looks("ask", x -> x.ask(0));
        looks("sweep, how many", x -> x.sweep(0, NONE));
        looks("sweep, which", x -> x.sweep(0, 0));
        looks("septembers", x -> x.septembers(999999, 60));
        looks("of", x -> x.of(0, 3));
        looks("about", x -> x.about(0, 2));
        looks("weather", x -> x.weather(0, 0));
        looks("part", x -> x.part(1));
        looks("count", x -> x.count(9));
        looks("status", x -> x.status(0));
        looks("digest", x -> x.digest());
    }

    /** HE, of a kind, in summer 999; nothing has struck HIM yet. */
    private static SteepleStruck last(int kind) {
        SteepleStruck x = Made.later(Made.things(kind, 30, 0), 999);
        due("999", x.count(4), 999);
        return x;
    }

    private static void beyondTheLastSummer() {
        Sentences.at("SUMMERS go beyond 999 in them.)");
        SteepleStruck x = Made.bodies(last(5), 0);
        x.storm(3, 0, 4);
        due("summer 999 itself", x.then(1), 1);
        due("summer 999 itself", x.when(0), 1);
        x.storm(3, 0, 0);
        x.storm(4, 0, 4);
        due("behind 999", x.then(1), 0);
        due("behind 1000", x.then(2), 1);
        due("behind 1000", x.when(0), 2);
        due("behind 1000", x.sweep(0, 0), 22);
        x.storm(4, 0, 0);
        x.storm(2, 0, 4);
        due("summer 1004", x.then(5), 0);
        due("summer 1004", x.then(6), 1);
        due("summer 1004", x.sweep(0, 0), 66);
        due("yet none goes by", x.summers(60), 0);
        due("yet none goes by", x.count(4), 999);
        // a VOTED one in 999, 1000: odd, even
        x = Made.bodies(last(3), 0);
        Made.stormy(x, 4);
        due("VOTED, 999 is odd", x.then(1), 0);
        due("VOTED, 1000 is even", x.then(2), 1);
        due("VOTED", x.when(0), 2);
        // a HAND for 3 in 999, 1001, for 4 in 1000
        x = Made.bodies(last(5), 2, 2);
        x.storm(3, 0, 3);
        x.storm(4, 0, 3);
        due("a hand for 3 in 999", x.then(1), 1);
        due("none for 3 in 1000", x.then(2), 1);
        due("one for 3 in 1001", x.then(3), 3);
        due("SEPTEMBERS beyond 999", x.septembers(3, 1), 2);
        // by seed 2 strength 6: in 999 two hands for 3 each
        due("SEPTEMBERS, 999 is odd", x.septembers(2, 1), 2);
        due("now it is 999 all the same", x.about(0, 2), 3);
    }

    private static void draws() {
        Sentences.at("DRAWS of a THING from a CELL now (up or down)");
        SteepleStruck x = Made.things(0, 12, 0, 3, 12, 0);
        due("up", x.draws(0, 0), 12);
        x.takes(0);
        due("down", x.draws(0, 0), 12);
        due("the farthest cell", x.draws(0, 11), 1);
        due("now", x.draws(1, 11), 2);
        x.summers(1);
        due("now", x.draws(1, 11), 0);
        x.undo();
        due("now again", x.draws(1, 11), 2);
    }

    private static void struck() {
        Sentences.at("STRUCK: which THING a STORM in a CELL now would STRIKE; none.");
        SteepleStruck x = Made.things(0, 11, 0);
        due("1 is drawn", x.struck(10), 0);
        due("0 is drawn", x.struck(11), NONE);
        x.takes(0);
        due("none is up", x.struck(0), NONE);
        due("none is there", new SteepleStruck().struck(11), NONE);
        due("the last of six", Made.things(0, 1, 0, 0, 1, 0, 0, 1, 0, 0, 1, 0, 0, 1, 0, 0, 1, 11).struck(11), 5);
    }

    private static void then() {
        Sentences.at("THEN: PARTS (bits) that are there behind m (0 .. 60) SUMMERS.");
        SteepleStruck x = Made.bodies(Made.him(), 0, 0);
        x.storm(5, 0, 4);
        due("behind 0", x.then(0), 0);
        due("behind 5", x.then(5), 0);
        due("behind 6", x.then(6), 1);
        due("behind 11", x.then(11), 1);
        due("behind 12", x.then(12), 3);
        due("behind 60", x.then(60), 3);
        x.summers(6);
        due("now", x.then(0), 1);
        // 1 a summer: 10, 12, 14, 16 for brows, 4 for a foot, 4 for a foot
        x = Made.bodies(Made.stormy(Made.him(), 1), 4, 4, 4, 4, 0, 0);
        due("behind 51", x.then(51), 0b000111);
        due("behind 52", x.then(52), 0b001111);
        due("behind 55", x.then(55), 0b001111);
        due("behind 56", x.then(56), 0b011111);
        due("behind 59", x.then(59), 0b011111);
        due("behind 60", x.then(60), 0b111111);
        due("no part", Made.him().then(60), 0);
        due("nothing at all", new SteepleStruck().then(60), 0);
        Whole.bad("behind -1", y -> y.then(-1));
        Whole.bad("behind 61", y -> y.then(61));
    }

    private static void when() {
        Sentences.at("WHEN: in how many SUMMERS (0 .. 60) a PART is there first; none.");
        // 1 a summer: 10, 12, 14, 16 for brows, 4 for a foot, 4 for a foot
        SteepleStruck x = Made.bodies(Made.stormy(Made.him(), 1), 4, 4, 4, 4, 0, 0);
        int[] firsts = {10, 22, 36, 52, 56, 60};
        for (int p = 0; p < 6; p++) {
            due("part " + p, x.when(p), firsts[p]);
        }
        x.storm(0, 0, 0);
        x.storm(1, 0, 2);
        due("as many by summer 60", x.when(5), 60);
        x.storm(1, 0, 1);
        due("10 less by summer 60: none", x.when(5), NONE);
        x.summers(60);
        due("it is there", x.when(0), 0);
        due("10 more in 12", x.when(5), 12);
        // a brow, a nose, three brows: 10, 3, 14, 16, 18 are 61
        x = Made.bodies(Made.stormy(Made.him(), 1), 4, 3, 4, 4, 4);
        due("in 61: none", x.when(4), NONE);
        due("behind 60", x.then(60), 0b01111);
        x.summers(1);
        due("in 60", x.when(4), 60);
        due("behind 60", x.then(60), 0b11111);
        due("never", Made.bodies(new SteepleStruck(), 0).when(0), NONE);
        due("never without a storm", Made.bodies(Made.him(), 0).when(0), NONE);
    }

    private static void from() {
        Sentences.at("FROM: CELLS (bits) in which a STORM now would STRIKE HIM.");
        due("no cell: there is nothing", new SteepleStruck().whence(), 0);
        due("one cell, the first", Made.things(0, 1, 0).whence(), 1);
        due("one cell, the last", Made.things(0, 1, 11).whence(), 1 << 11);
        due("all but the last", Made.things(0, 11, 0).whence(), 0b011111111111);
        due("all", Made.things(0, 12, 0).whence(), 0b111111111111);
        due("like ones: HE", Made.things(0, 12, 0, 0, 12, 0).whence(), 0b111111111111);
        due("1 more: not HE", Made.things(0, 12, 0, 0, 13, 0).whence(), 0);
        SteepleStruck x = Made.things(0, 12, 0);
        x.takes(0);
        due("HE is down", x.whence(), 0);
    }

    private static void lead() {
        Sentences.at("LEAD for a CELL: the fewest THINGS that are up (not HE; bits; of like ones the least) without which a STORM there now"
            + " would STRIKE HIM; none.");
        due("no thing", new SteepleStruck().lead(0), NONE);
        SteepleStruck x = Made.things(0, 5, 0, 0, 5, 0, 0, 6, 0, 0, 1, 0);
        due("only the one that draws 1 more", x.lead(0), 0b0100);
        due("HE draws 1 there", x.lead(4), 0b0100);
        due("HE draws 0 there", x.lead(5), NONE);
        x.takes(2);
        due("none need be", x.lead(0), 0);
        x.takes(0);
        due("HE is down", x.lead(0), NONE);
        due("HE alone", Made.things(0, 1, 11).lead(11), 0);
        due("HE alone, 1 off", Made.things(0, 1, 11).lead(10), NONE);
        due("all five others", Made.things(0, 1, 0, 0, 2, 0, 0, 3, 0, 0, 4, 0, 0, 5, 0, 0, 6, 0).lead(0), 0b111110);
    }

    private static void spare() {
        Sentences.at("SPARE: the fewest THINGS (not HE; bits; of like ones the least) to be up, all others but HIM down (HE as he is now), so that"
            + " no STORM in any of the CELLS now would STRIKE HIM; none.");
        due("no thing", new SteepleStruck().spare(), 0);
        due("HE alone", Made.things(0, 1, 0).spare(), NONE);
        due("as much as HE is not enough", Made.things(0, 1, 0, 0, 1, 0).spare(), NONE);
        due("1 more is", Made.things(0, 1, 0, 0, 2, 0).spare(), 0b10);
        // 1 more in all cells but the last one that HE has
        due("11 cells of 12", Made.things(0, 12, 11, 0, 12, 10).spare(), NONE);
        due("12 cells", Made.things(0, 12, 11, 0, 14, 10).spare(), 0b10);
        due("of like ones the least", Made.things(0, 1, 0, 0, 2, 0, 0, 2, 0).spare(), 0b010);
        // things 1 and 2 spare the kite's two sides, thing 3 alone does as well: the fewest, though its bit is greater
        due("the fewest", Made.things(0, 2, 5, 4, 1, 4, 4, 1, 6, 0, 3, 5).spare(), 0b1000);
        due("one less of them: two", Made.things(0, 2, 5, 4, 1, 4, 4, 1, 6).spare(), 0b110);
        due("one for each end", Made.things(1, 1, 5, 1, 7, 0, 1, 7, 11).spare(), 0b110);
        due("the last of six", Made.things(0, 5, 5, 0, 5, 5, 0, 5, 5, 0, 5, 5, 0, 5, 5, 0, 6, 5).spare(), 0b100000);
        SteepleStruck x = Made.things(0, 1, 0, 0, 2, 0);
        x.takes(1);
        due("down ones, too", x.spare(), 0b10);
        x.takes(0);
        due("HE is down", x.spare(), 0);
        due("a VOTED one in an even summer", Made.things(3, 1, 0).spare(), NONE);
        due("a VOTED one in an odd summer draws nothing", Made.later(Made.things(3, 1, 0), 1).spare(), 0);
    }

    private static void order() {
        Sentences.at("ORDER: HIS PARTS that are not there, one behind the other in some order, with CHARGE c (0 .. 99) in this SUMMER (each as it needs"
            + " then; the first that it does not reach for ends it): so that most come: how many; the k-th PART of the first such order of all that"
            + " are not there (by PARTS, rising).");
        SteepleStruck x = Made.bodies(new SteepleStruck(), 4, 4, 4, 4, 4, 4);
        // 10, 12, 14, 16, 18, 20: 90 in all
        int[] sums = {0, 10, 22, 36, 52, 70, 90};
        for (int come = 1; come <= 6; come++) {
            due("1 less", x.order(sums[come] - 1, NONE), come - 1);
            due("as much", x.order(sums[come], NONE), come);
        }
        due("charge 0", x.order(0, NONE), 0);
        due("charge 99", x.order(99, NONE), 6);
        due("the first", x.order(0, 0), 0);
        due("the last, that does not come", x.order(0, 5), 5);
        due("no 7th", x.order(0, 6), -5);
        due("no 7th", x.order(99, 6), -5);
        due("no part at all", new SteepleStruck().order(99, NONE), 0);
        due("no part at all", new SteepleStruck().order(99, 0), -5);
        // a nose for 2, a foot for 4: with 6 behind the foot the nose needs 3
        x = Made.bodies(new SteepleStruck(), 0, 3);
        due("1", x.order(1, NONE), 0);
        due("1: rising", x.order(1, 0) * 10 + x.order(1, 1), 1);
        due("2: the nose", x.order(2, NONE) * 100 + x.order(2, 0) * 10 + x.order(2, 1), 110);
        due("3: the nose", x.order(3, NONE) * 100 + x.order(3, 0) * 10 + x.order(3, 1), 110);
        due("4: either one, the foot is the first such", x.order(4, NONE) * 100 + x.order(4, 0) * 10 + x.order(4, 1), 101);
        due("6: both, the nose ahead", x.order(6, NONE) * 100 + x.order(6, 0) * 10 + x.order(6, 1), 210);
        due("7: both, rising", x.order(7, NONE) * 100 + x.order(7, 0) * 10 + x.order(7, 1), 201);
        // brow, coat, foot: with none there 10, 4, 4, with one 12, 6, 4, with two 14, 8, 4
        x = Made.bodies(new SteepleStruck(), 4, 1, 0);
        int[][] most = {{3, 0, 12}, {4, 1, 102}, {7, 1, 102}, {8, 2, 120}, {10, 2, 120}, {13, 2, 120}, {14, 2, 21}, {15, 2, 21}, {16, 2, 12},
            {19, 2, 12}, {20, 3, 12}, {99, 3, 12}};
        for (int[] one : most) {
            due("how many with " + one[0], x.order(one[0], NONE), one[1]);
            due("which with " + one[0], x.order(one[0], 0) * 100 + x.order(one[0], 1) * 10 + x.order(one[0], 2), one[2]);
        }
        // 14 reach for two coats, or for a brow and something for 4 that is not there
        x = Made.bodies(new SteepleStruck(), 4, 1, 1);
        due("two coats", x.order(14, NONE), 2);
        due("the coats first", x.order(14, 0) * 100 + x.order(14, 1) * 10 + x.order(14, 2), 120);
        // a hat for 4, behind three others for 1; a nose for 2, 3, 4: 2, 4, 4, 1 is the cheapest order
        x = Made.bodies(new SteepleStruck(), 5, 0, 2, 3);
        due("all four", x.order(11, NONE), 4);
        due("the nose, the foot, the hand, the hat", x.order(11, 0) * 1000 + x.order(11, 1) * 100 + x.order(11, 2) * 10 + x.order(11, 3), 3120);
        due("three of them", x.order(10, NONE), 3);
        due("the nose, the hat, the foot", x.order(10, 0) * 1000 + x.order(10, 1) * 100 + x.order(10, 2) * 10 + x.order(10, 3), 3012);
        // asked again with less, and when one is there: nothing of what was asked ahead of it stays
        x = Made.bodies(Made.stormy(Made.him(), 4), 0, 0, 0);
        due("three with 12", x.order(12, NONE), 3);
        due("none with 3", x.order(3, NONE), 0);
        due("three with 99", x.order(99, NONE), 3);
        x.summers(1);
        due("one with 7", x.order(7, NONE) * 10 + x.order(7, 0), 11);
        due("none with 0", x.order(0, NONE), 0);
        // only those that are not there
        x = Made.bodies(Made.stormy(Made.him(), 4), 0, 1);
        x.summers(1);
        due("the coat behind the foot: 5 of 6", x.order(5, NONE), 0);
        due("the coat behind the foot: 6 of 6", x.order(6, NONE), 1);
        due("the coat alone", x.order(6, 0), 1);
        due("no second one", x.order(6, 1), -5);
        Made.later(x, 60);
        due("all are there", x.order(99, NONE), 0);
        due("all are there", x.order(99, 0), -5);
        // in this summer: a hand for 4 in an even one, for 3 in an odd one
        x = Made.bodies(new SteepleStruck(), 2);
        due("3 in summer 0", x.order(3, NONE), 0);
        x.summers(1);
        due("3 in summer 1", x.order(3, NONE), 1);
        due("2 in summer 1", x.order(2, NONE), 0);
    }

    private static void seen() {
        Sentences.at("SEEN 0 .. 4, as they come: a STORM in CELL c STRUCK THING k (NONE: nothing), all as now.");
        SteepleStruck x = Made.things(0, 1, 0, 0, 1, 0, 0, 1, 0, 0, 1, 0, 0, 1, 0, 0, 1, 0);
        int[] struck = {5, 0, NONE, 5, NONE};
        for (int i = 0; i < 5; i++) {
            due("as they come", x.seen(i == 0 ? 11 : 0, struck[i]), i + 1);
        }
        due("a 6th", x.seen(0, 0), FULL);
        due("five", x.count(6), 5);
        Whole.refused("a 6th", Made::full, y -> y.seen(0, NONE), FULL, 2);
        Whole.bad("thing -2", y -> y.seen(0, -2));
        Whole.bad("thing 6", y -> y.seen(0, 6));
        Whole.refused("thing 2 of two", Made::some, y -> y.seen(0, 2), SteepleStruck.BAD, 0);
        due("thing 1 of two", Made.some().seen(0, 1), 2);
        due("nothing, where there is no thing", new SteepleStruck().seen(0, NONE), 1);
        due("thing 0, where there is none", new SteepleStruck().seen(0, 0), SteepleStruck.BAD);
    }

    private static void heights(SteepleStruck x, int k, int many, int least, int greatest) {
        due("how many", x.tall(k, 0), many);
        due("the least", x.tall(k, 1), least);
        due("the greatest", x.tall(k, 2), greatest);
    }

    private static void tall() {
        Sentences.at("TALL for a THING: HEIGHTS (1 .. 30) that it may have, all others as they are, so that all SEEN are so: how many; the least;"
            + " the greatest (NONE: none).");
        SteepleStruck x = Made.things(0, 9, 0, 0, 30, 0);
        heights(x, 0, 30, 1, 30);
        x.seen(0, 0);
        heights(x, 0, 1, 30, 30);
        heights(x, 1, 9, 1, 9);
        x = Made.things(0, 9, 0, 0, 29, 0);
        x.seen(0, 0);
        heights(x, 0, 2, 29, 30);
        x = Made.things(0, 9, 0, 1, 26, 0);
        x.seen(0, 0);
        heights(x, 0, 0, NONE, NONE);
        x = Made.things(0, 9, 0, 0, 2, 0);
        x.seen(0, 1);
        heights(x, 0, 1, 1, 1);
        x = Made.things(0, 9, 0, 0, 1, 0);
        x.seen(0, 1);
        heights(x, 0, 0, NONE, NONE);
        // nothing is struck 11 off: up to 11 high
        x = Made.things(0, 9, 0);
        x.seen(11, NONE);
        heights(x, 0, 11, 1, 11);
        x.seen(10, 0);
        heights(x, 0, 1, 11, 11);
        x.seen(9, NONE);
        heights(x, 0, 0, NONE, NONE);
        // all of five are to be so, the fifth too
        x = Made.things(0, 9, 0);
        for (int i = 0; i < 4; i++) {
            x.seen(0, 0);
        }
        heights(x, 0, 30, 1, 30);
        x.seen(4, 0);
        heights(x, 0, 26, 5, 30);
        // one that is down has no part in it
        x = Made.things(0, 9, 0, 0, 9, 0);
        x.takes(1);
        x.seen(0, 0);
        heights(x, 1, 30, 1, 30);
        heights(x, 0, 30, 1, 30);
        x.forget(0);
        x.seen(0, 1);
        heights(x, 0, 0, NONE, NONE);
        heights(x, 1, 0, NONE, NONE);
    }

    private static void notes() {
        Sentences.at("NOTES 0 .. 5, as they come: a THING of HEIGHT t (1 .. 30), f (0 .. 11) off, DREW x (0 .. 99) in SUMMER y (0 .. 99).");
        SteepleStruck x = Made.him();
        due("the least of all", x.note(0, 1, 0, 0, 0), 1);
        due("the greatest of all", x.note(0, 30, 11, 99, 99), 2);
        for (int i = 3; i <= 6; i++) {
            due("as they come", x.note(0, 1, 1, 1, 1), i);
        }
        due("a 7th", x.note(0, 1, 1, 1, 1), FULL);
        due("six", x.count(7), 6);
        Whole.refused("a 7th", Made::full, y -> y.note(5, 30, 11, 99, 99), FULL, 2);
        Whole.bad("height 0", y -> y.note(0, 0, 0, 0, 0));
        Whole.bad("height 31", y -> y.note(0, 31, 0, 0, 0));
        Whole.bad("-1 off", y -> y.note(0, 1, -1, 0, 0));
        Whole.bad("12 off", y -> y.note(0, 1, 12, 0, 0));
        Whole.bad("summer -1", y -> y.note(0, 1, 0, -1, 0));
        Whole.bad("summer 100", y -> y.note(0, 1, 0, 100, 0));
        Whole.bad("drew -1", y -> y.note(0, 1, 0, 0, -1));
        Whole.bad("drew 100", y -> y.note(0, 1, 0, 0, 100));
        Whole.bad("thing -1", y -> y.note(-1, 1, 0, 0, 0));
        Whole.bad("thing 6", y -> y.note(6, 1, 0, 0, 0));
        Whole.refused("thing 2 of two", Made::some, y -> y.note(2, 1, 0, 0, 0), SteepleStruck.BAD, 0);
        due("thing 1 of two", Made.some().note(1, 1, 0, 0, 0), 2);
    }

    /** IS of one note on a thing. */
    private static int is(int t, int f, int y, int x) {
        SteepleStruck z = Made.him();
        z.note(0, t, f, y, x);
        return z.is(0);
    }

    private static void is() {
        Sentences.at("IS: KINDS (bits) by which all NOTES of one are so.");
        SteepleStruck x = Made.him();
        due("no note: all six", x.is(0), 0b111111);
        // of 30, 0 off, in 0: 30, 35, 60, 60, 39, 35
        due("29", is(30, 0, 0, 29), 0);
        due("30", is(30, 0, 0, 30), 0b000001);
        due("31", is(30, 0, 0, 31), 0);
        due("35", is(30, 0, 0, 35), 0b100010);
        due("39", is(30, 0, 0, 39), 0b010000);
        due("60, the most that there is", is(30, 0, 0, 60), 0b001100);
        due("99", is(30, 0, 0, 99), 0);
        // of 1, 11 off, in 99: 0, 5, 0, 0, 0, 10
        due("0", is(1, 11, 99, 0), 0b011101);
        due("5", is(1, 11, 99, 5), 0b000010);
        due("10", is(1, 11, 99, 10), 0b100000);
        // a kite of 5: 1 off 13, 2 off 3
        due("1 off", is(5, 1, 1, 13), 0b010000);
        due("2 off", is(5, 2, 1, 3), 0b010001);
        due("2 off 12", is(5, 2, 1, 12), 0);
        // copper of 5: in 4 14, in 5 15, in 6 15
        due("copper in 4", is(5, 0, 4, 14), 0b110000);
        due("copper in 5", is(5, 0, 5, 15), 0b100000);
        due("copper in 6", is(5, 0, 6, 15), 0b100000);
        due("copper in 6 no 16", is(5, 0, 6, 16), 0);
        // all of six: the sixth too
        for (int i = 0; i < 5; i++) {
            x.note(0, 30, 0, 0, 60);
        }
        due("rod, voted", x.is(0), 0b001100);
        x.note(0, 30, 0, 1, 0);
        due("voted", x.is(0), 0b001000);
        // of one: those of another one do not matter
        x = Made.things(5, 30, 0, 5, 30, 0, 5, 30, 0);
        x.note(1, 30, 0, 0, 99);
        due("of the one ahead", x.is(0), 63);
        due("of the one itself", x.is(1), 0);
        due("of the one behind", x.is(2), 63);
    }

    private static void look(String what, int height, int kinds, int want, int... notes) {
        SteepleStruck x = Made.things(0, height, 0);
        for (int i = 0; i + 3 < notes.length; i += 4) {
            x.note(0, notes[i], notes[i + 1], notes[i + 2], notes[i + 3]);
        }
        due(what + ": kinds", x.is(0), kinds);
        due(what, x.look(0), want);
    }

    private static void look() {
        Sentences.at("LOOK: 100 f and y (f 0 .. 11, y 0 .. 9), its HEIGHT as it is, by which the most of these KINDS that DRAW alike are fewest;"
            + " of like ones the least; none: no KIND.");
        look("no kind", 30, 0, NONE, 30, 0, 0, 99);
        look("one kind alone: the least of all", 30, 0b000001, 0, 30, 0, 0, 30);
        // tree, kite: 9 apart from 0 off
        look("apart at once", 5, 0b010001, 0, 5, 2, 1, 3);
        // steeple, copper are alike in summer 0
        look("from summer 1 on", 5, 0b100010, 1, 30, 0, 0, 35);
        look("from summer 1 on, whatever its height", 1, 0b100010, 1, 30, 0, 0, 35);
        // steeple, rod, voted, copper of 6: in 0 11, 12, 12, 11; in 1 11, 12, 0, 12; in 2 11, 12, 12, 13; in 3 11, 12, 0, 14
        look("in summer 3", 6, 0b101110, 3, 5, 0, 0, 10);
        // of 5: in 0 10, 10, 10, 10; in 1 10, 10, 0, 11; in 2 10, 10, 10, 12; 1 off in 1 9, 8, 0, 10
        look("1 off in summer 1", 5, 0b101110, 101, 5, 0, 0, 10);
        // of 7: in 0 12, 14, 14, 12; in 1 12, 14, 0, 13
        look("in summer 1", 7, 0b101110, 1, 5, 0, 0, 10);
        // rod, kite of 9: 0 off 18, 18; 1 off 16, 17
        look("1 off in summer 0", 9, 0b010100, 100, 9, 0, 1, 18);
        look("of 8 it is 0 off", 8, 0b010100, 0, 9, 0, 1, 18);
        look("of 10 it is 0 off", 10, 0b010100, 0, 9, 0, 1, 18);
        // all six of 30: in 0 30, 35, 60, 60, 39, 35; in 1 30, 35, 60, 0, 39, 36
        look("all six", 30, 0b111111, 1);
        // all six of 1: in 0 1, 6, 2, 2, 10, 6; in 1 1, 6, 2, 0, 10, 7
        look("all six", 1, 0b111111, 1);
    }

    private static void marks() {
        Sentences.at("MARKS 0 .. 5, as they come: a PART needed x (0 .. 99), n (0 .. 5) being there, in SUMMER y (0 .. 99).");
        SteepleStruck x = Made.bodies(new SteepleStruck(), 0);
        due("the least of all", x.mark(0, 0, 0, 0), 1);
        due("the greatest of all", x.mark(0, 5, 99, 99), 2);
        for (int i = 3; i <= 6; i++) {
            due("as they come", x.mark(0, 1, 1, 1), i);
        }
        due("a 7th", x.mark(0, 1, 1, 1), FULL);
        due("six", x.count(8), 6);
        Whole.refused("a 7th", Made::full, y -> y.mark(5, 5, 99, 99), FULL, 2);
        Whole.bad("-1 there", y -> y.mark(0, -1, 0, 0));
        Whole.bad("6 there", y -> y.mark(0, 6, 0, 0));
        Whole.bad("summer -1", y -> y.mark(0, 0, -1, 0));
        Whole.bad("summer 100", y -> y.mark(0, 0, 100, 0));
        Whole.bad("needed -1", y -> y.mark(0, 0, 0, -1));
        Whole.bad("needed 100", y -> y.mark(0, 0, 0, 100));
        Whole.bad("part -1", y -> y.mark(-1, 0, 0, 0));
        Whole.bad("part 6", y -> y.mark(6, 0, 0, 0));
        Whole.refused("part 2 of two", Made::some, y -> y.mark(2, 0, 0, 0), SteepleStruck.BAD, 0);
        due("part 1 of two", Made.some().mark(1, 0, 0, 0), 2);
    }

    private static SteepleStruck marked(int... marks) {
        SteepleStruck x = Made.bodies(new SteepleStruck(), 0);
        for (int i = 0; i + 2 < marks.length; i += 3) {
            x.mark(0, marks[i], marks[i + 1], marks[i + 2]);
        }
        return x;
    }

    private static void what() {
        Sentences.at("WHAT: KINDS of PARTS (bits) by which all MARKS of one are so.");
        due("no mark: all six", marked().kinds(0), 0b111111);
        due("0: none", marked(0, 0, 0).kinds(0), 0);
        due("99: none", marked(5, 99, 99).kinds(0), 0);
        // with 0 there in 0: 4, 4, 4, 2, 10, 4
        due("4 at first", marked(0, 0, 4).kinds(0), 0b100111);
        // with 0 there in 1: 4, 4, 3, 2, 10, 3
        due("3 in an odd one", marked(0, 1, 3).kinds(0), 0b100100);
        due("4 in an odd one", marked(0, 1, 4).kinds(0), 0b000011);
        // with 2 there in 1: 4, 8, 3, 4, 14, 3; with 3 there: 4, 10, 3, 5, 16, 1
        due("with 2 there", marked(2, 1, 3).kinds(0), 0b100100);
        due("with 2 there 1", marked(2, 1, 1).kinds(0), 0);
        due("with 3 there", marked(3, 1, 3).kinds(0), 0b000100);
        due("with 3 there 1", marked(3, 1, 1).kinds(0), 0b100000);
        due("20, the most that there is", marked(5, 99, 20).kinds(0), 0b010000);
        SteepleStruck x = Made.bodies(new SteepleStruck(), 0, 0, 0);
        x.mark(1, 0, 0, 99);
        due("of the one ahead", x.kinds(0), 63);
        due("of the one itself", x.kinds(1), 0);
        due("of the one behind", x.kinds(2), 63);
        due("all of six, the sixth too", marked(0, 0, 4, 0, 0, 4, 0, 0, 4, 0, 0, 4, 0, 0, 4, 5, 98, 14).kinds(0), 0b000010);
    }

    private static void ask(String what, int kinds, int want, int... marks) {
        SteepleStruck x = marked(marks);
        due(what + ": kinds", x.kinds(0), kinds);
        due(what, x.ask(0), want);
    }

    private static void ask() {
        Sentences.at("ASK: 10 n and y (n 0 .. 5, y 0, 1) by which the most of these KINDS that need alike are fewest; of like ones the least;"
            + " none: no KIND.");
        ask("no kind", 0, NONE, 0, 0, 0);
        ask("one kind alone: the least of all", 0b010000, 0, 0, 0, 10);
        ask("a foot alone, whatever others would need", 0b000001, 0, 1, 1, 4);
        // foot, nose: 4, 2 with none there
        ask("apart at once", 0b001001, 0, 2, 1, 4);
        // hand, hat: alike up to two there
        ask("with 3 there", 0b100100, 30, 0, 1, 3);
        // foot, coat: apart with one there
        ask("with 1 there", 0b000011, 10, 0, 1, 4);
        // foot, hand: 4, 4 in an even summer, 4, 3 in an odd one
        ask("in an odd one", 0b000101, 1, 3, 0, 4);
        // hand, nose, hat: with 3 there, even: 4, 5, 1
        ask("with 3 there in an even one", 0b101100, 30, 1, 1, 3);
        // all six: with 3 there, odd: 4, 10, 3, 5, 16, 1
        ask("all six", 0b111111, 31);
        // foot, coat, hand, hat: with 3 there, odd: 4, 10, 3, 1
        ask("four of them", 0b100111, 31, 0, 0, 4);
    }

    private static void sweeps(String what, SteepleStruck x, int when, int pair) {
        due(what + ", when", x.when(0), when);
        due(what + ", how many", x.sweep(0, NONE), 1);
        due(what + ", the first", x.sweep(0, 0), pair);
        due(what + ", no second one", x.sweep(0, 1), -5);
    }

    private static void sweep() {
        Sentences.at("SWEEP for a PART: two bet on the number of SUMMERS i, j (0 .. 9) in which it is there first: to who is nearer to WHEN (10, if"
            + " that is none, or more) 12, less how far off, to the other one 0; both as near: 6 each: pairs 10 i and j that rest (neither would get"
            + " more by another bet): how many; the k-th (rising).");
        // a brow for 10, 1 a summer, so many summers gone by already: both on when that is
        for (int gone = 1; gone <= 9; gone++) {
            SteepleStruck x = Made.later(Made.stormy(Made.him(), 1), gone);
            x.body(4);
            sweeps("in " + (10 - gone), x, 10 - gone, 11 * (10 - gone));
        }
        SteepleStruck x = Made.bodies(Made.stormy(Made.him(), 1), 4);
        sweeps("in 10", x, 10, 99);
        x.storm(0, 0, 0);
        sweeps("in 12", x, 12, 99);
        x.summers(1);
        sweeps("in 11", x, 11, 99);
        x.takes(0);
        sweeps("none", x, NONE, 99);
        x.takes(0);
        Made.later(x, 11);
        sweeps("there already", x, 0, 0);
        due("a 3rd", x.sweep(0, 2), -5);
        Whole.bad("k below -1", y -> y.sweep(0, -2), -10);
        Whole.bad("part -1", y -> y.sweep(-1, 0), -10);
        Whole.bad("part 6", y -> y.sweep(6, 0), -10);
    }

    private static void falls(SteepleStruck x, int cell, int c, long above, long below) {
        due("falls answers", x.falls(cell, c), 1);
        due("above, in cell " + cell + " by " + c, x.part(0), above);
        due("below, in cell " + cell + " by " + c, x.part(1), below);
    }

    private static void falls() {
        Sentences.at("FALLS: by c of 10 (0 .. 10) each THING that is up (HE, too), apart, falls: the chance that a STORM in a CELL now STRIKES HIM:"
            + " THE FRACTION.");
        falls(new SteepleStruck(), 0, 0, 0, 1);
        SteepleStruck x = Made.things(0, 5, 0);
        falls(x, 0, 0, 1, 1);
        falls(x, 0, 1, 9, 10);
        falls(x, 0, 5, 1, 2);
        falls(x, 0, 9, 1, 10);
        falls(x, 0, 10, 0, 1);
        falls(x, 4, 0, 1, 1);
        falls(x, 5, 0, 0, 1);
        // another that draws as much does not matter, one that draws 1 more is to fall
        x.thing(0, 5, 0);
        falls(x, 0, 1, 9, 10);
        x.thing(0, 6, 0);
        falls(x, 0, 0, 0, 1);
        falls(x, 0, 1, 9, 100);
        falls(x, 0, 5, 1, 4);
        falls(x, 0, 9, 9, 100);
        falls(x, 0, 10, 0, 1);
        falls(x, 5, 5, 0, 1);
        x.takes(2);
        falls(x, 0, 9, 1, 10);
        x.takes(0);
        falls(x, 0, 0, 0, 1);
        // all five others are to fall
        x = Made.things(0, 1, 0, 0, 2, 0, 0, 3, 0, 0, 4, 0, 0, 5, 0, 0, 6, 0);
        falls(x, 0, 0, 0, 1);
        falls(x, 0, 1, 9, 1000000);
        falls(x, 0, 2, 4, 15625);
        falls(x, 0, 5, 1, 64);
        falls(x, 0, 9, 59049, 1000000);
        falls(x, 0, 10, 0, 1);
        Whole.bad("by -1 of 10", y -> y.falls(0, -1));
        Whole.bad("by 11 of 10", y -> y.falls(0, 11));
    }

    private static void septembers() {
        Sentences.at("SEPTEMBERS by a SEED (0 .. 999999), n (0 .. 60) SUMMERS");
        SteepleStruck x = Made.bodies(Made.things(0, 3, 0), 1, 1, 1, 1, 1, 1);
        due("seed 0, none goes by", x.septembers(0, 0), 0);
        due("seed 0, 59", x.septembers(0, 59), 5);
        due("seed 0, 60", x.septembers(0, 60), 6);
        x = Made.bodies(Made.things(0, 3, 0), 4, 4, 4, 4, 4, 4);
        due("seed 999999, none goes by", x.septembers(999999, 0), 0);
        due("seed 999999, 59", x.septembers(999999, 59), 4);
        due("seed 999999, 60", x.septembers(999999, 60), 5);
        x = Made.bodies(Made.stormy(Made.him(), 4), 0, 4);
        x.summers(1);
        due("how many are there already", x.septembers(0, 0), 1);
        due("no part", Made.him().septembers(999999, 60), 0);
        due("no thing", Made.bodies(new SteepleStruck(), 0).septembers(999999, 60), 0);
        Whole.bad("seed -1", y -> y.septembers(-1, 1));
        Whole.bad("seed 1000000", y -> y.septembers(1000000, 1));
        Whole.bad("-1 summers", y -> y.septembers(0, -1));
        Whole.bad("61 summers", y -> y.septembers(0, 61));
    }

    /** HE with so much charge, and a brow that needs 10. */
    private static SteepleStruck brow(int charge) {
        SteepleStruck x = Made.him();
        if (charge > 0) {
            x.storm(0, 0, Math.min(charge, 9));
            x.storm(1, 0, charge - Math.min(charge, 9));
            x.summers(2);
        }
        due("charge", x.count(5), charge);
        return Made.bodies(x, 4);
    }

    private static void septemberStorms() {
        Sentences.at("X is SEED at first; ahead of each SUMMER X becomes X times 1103515245 and 12345, by 2147483648 what is left over; its STORM (instead"
            + " of that told) is in CELL X by 65536 (cut), by 12 left over, of STRENGTH X by 1048576 (cut), by 10 left over: how many PARTS are there"
            + " behind them.");
        // seed, cell, strength: X is 12345, 1103527590 (as yet nothing is left over), 59559187 (something is), .. 2208, 2147482477 (the least,
        // the greatest of some thousands), 1062535168 and 1682964480 (just at a cut), 277282815 and 202375167 (just below one)
        int[][] storms = {{0, 0, 0}, {1, 2, 2}, {2, 8, 6}, {3, 11, 9}, {9, 0, 9}, {388515, 0, 0}, {518020, 7, 7}, {42627, 1, 3}, {501379, 0, 5},
            {47902, 6, 4}, {899870, 3, 2}, {999999, 4, 0}};
        for (int[] one : storms) {
            String what = "seed " + one[0];
            due(what + ", as much as is needed", brow(10 - one[2]).septembers(one[0], 1), 1);
            due(what + ", 1 less", brow(9 - one[2]).septembers(one[0], 1), 0);
            for (int c = 0; c < 12 && one[2] >= 2; c++) {
                SteepleStruck x = Made.bodies(Made.things(0, 1, c), 3);
                due(what + ", HE in cell " + c, x.septembers(one[0], 1), c == one[1] ? 1 : 0);
            }
        }
        // by seed 0: strength 0, 1 in cell 0, 4 in 4, 2 in 1: X goes on from X
        SteepleStruck x = Made.bodies(Made.him(), 3, 3);
        due("1 of 2", x.septembers(0, 2), 0);
        due("5 of 2 and 3", x.septembers(0, 3), 2);
        x = Made.bodies(Made.things(0, 1, 1), 3);
        due("not in cell 1 yet", x.septembers(0, 3), 0);
        due("in cell 1", x.septembers(0, 4), 1);
        // not the storms told
        x = Made.stormy(Made.bodies(Made.him(), 0), 9);
        due("strength 0, whatever was told", x.septembers(0, 1), 0);
        due("the storm told", x.then(1), 1);
    }
}
