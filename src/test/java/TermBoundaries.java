/** The boundaries that stand under Terms ahead of "======== 2", but for those of THE TEXT. */
final class TermBoundaries {
    private static final int NONE = SteepleStruck.NONE;
    private static final int FULL = SteepleStruck.FULL;

    private TermBoundaries() {
    }

    static void all() {
        calls();
        cells();
        things();
        he();
        parts();
        summers();
        lastSummer();
        storms();
        charge();
        treeSteepleRod();
        votedKiteCopper();
        needs();
        strikes();
        summer();
    }

    private static void due(String what, long got, long want) {
        Check.due(what, got, want);
    }

    private static void calls() {
        Sentences.at("An object is used for at most 512 calls after it has been made");
        SteepleStruck x = Made.him();
        for (int call = 2; call <= 509; call++) {
            due("call " + call, x.takes(0), call % 2);
        }
        due("call 510", x.undo(), 0);
        due("call 511", x.count(9), 7);
        due("call 512", x.of(0, 3), 0);
        x = new SteepleStruck();
        for (int call = 1; call <= 511; call++) {
            due("call " + call, x.status(3), NONE);
        }
        due("call 512", x.status(0), 511);
    }

    private static void cells() {
        Sentences.at("11 in a row.");
        SteepleStruck x = Made.things(0, 12, 0, 4, 12, 0, 0, 11, 0);
        due("12 high in cell 0, from cell 11: 11 off", x.draws(0, 11), 1);
        due("it is no ring: a kite there is not 1 off", x.draws(1, 11), 1);
        due("11 high in cell 0, from cell 11", x.draws(2, 11), 0);
        due("in cell 0", x.thing(0, 1, 0), 3);
        due("in cell 11", x.thing(0, 12, 11), 4);
        due("from cell 0", x.draws(4, 0), 1);
        due("from cell 11", x.draws(4, 11), 12);
        due("twelve of them", Made.things(1, 1, 11).whence(), 0b111111111111);
        for (int c : new int[] {-1, 12}) {
            Whole.bad("storm in cell " + c, y -> y.storm(0, c, 0));
            Whole.bad("thing in cell " + c, y -> y.thing(0, 1, c));
            Whole.bad("draws from cell " + c, y -> y.draws(0, c));
            Whole.bad("struck in cell " + c, y -> y.struck(c));
            Whole.bad("lead for cell " + c, y -> y.lead(c));
            Whole.bad("seen in cell " + c, y -> y.seen(c, NONE));
            Whole.bad("falls in cell " + c, y -> y.falls(c, 0));
        }
    }

    private static void things() {
        Sentences.at("THINGS 0 .. 5, as they come: a KIND, a HEIGHT (1 .. 30), a CELL; up, or down (up at first).");
        SteepleStruck x = new SteepleStruck();
        for (int k = 0; k < 6; k++) {
            due("as they come", x.thing(5 - k, 1 + k, k), k);
            due("up at first", x.of(k, 3), 1);
            due("its kind", x.of(k, 0), 5 - k);
        }
        due("thing 0 is the first", x.of(0, 0), 5);
        due("thing 5 is the last", x.of(5, 0), 0);
        due("height 1", x.of(0, 1), 1);
        due("height 30", Made.things(0, 30, 0).of(0, 1), 30);
        Whole.bad("height 0", y -> y.thing(0, 0, 0));
        Whole.bad("height 31", y -> y.thing(0, 31, 0));
        Whole.bad("kind -1", y -> y.thing(-1, 1, 0));
        Whole.bad("kind 6", y -> y.thing(6, 1, 0));
        Whole.refused("a 7th thing", Made::full, y -> y.thing(0, 1, 0), FULL, 2);
        for (int k : new int[] {-1, 6}) {
            Whole.bad("thing " + k + " taken", y -> y.takes(k));
        }
        // a number that may be told, but that thing has not come yet
        SteepleStruck five = Made.things(0, 1, 0, 0, 1, 0, 0, 1, 0, 0, 1, 0, 0, 1, 0);
        due("thing 5 is not there yet", five.takes(5), SteepleStruck.BAD);
        due("a 6th thing", five.thing(0, 1, 0), 5);
        due("thing 5 is there", five.takes(5), 0);
    }

    private static void he() {
        Sentences.at("HE is THING 0.");
        SteepleStruck x = Made.stormy(Made.things(0, 5, 0, 5, 30, 0), 9);
        x.summers(1);
        due("thing 1 is struck, not HE", x.count(5), 0);
        x.takes(1);
        x.summers(1);
        due("thing 0 is", x.count(5), 9);
    }

    private static void parts() {
        Sentences.at("PARTS 0 .. 5 of HIM, as they come: a KIND; there or not (none at first).");
        SteepleStruck x = new SteepleStruck();
        for (int p = 0; p < 6; p++) {
            due("as they come", x.body(5 - p), p);
            due("not there at first", x.about(p, 1), 0);
        }
        due("none is there", x.count(3), 0);
        due("part 0 is the first", x.about(0, 0), 5);
        due("part 5 is the last", x.about(5, 0), 0);
        Whole.bad("kind -1", y -> y.body(-1));
        Whole.bad("kind 6", y -> y.body(6));
        Whole.refused("a 7th part", Made::full, y -> y.body(0), FULL, 2);
        Whole.bad("part -1", y -> y.about(-1, 0));
        Whole.bad("part 6", y -> y.about(6, 0));
        SteepleStruck five = Made.bodies(new SteepleStruck(), 0, 0, 0, 0, 0);
        due("part 5 is not there yet", five.about(5, 0), SteepleStruck.BAD);
        due("a 6th part", five.body(3), 5);
        due("part 5 is there", five.about(5, 0), 3);
        // HE need not be there for parts to be told
        due("parts of HIM ahead of HIM", five.count(0), 0);
    }

    private static void summers() {
        Sentences.at("SUMMERS have numbers, 0 at first (999 at most)");
        SteepleStruck x = new SteepleStruck();
        due("0 at first", x.count(4), 0);
        Made.later(x, 998);
        due("998", x.count(4), 998);
        x.summers(1);
        due("999", x.count(4), 999);
        x.summers(1);
        due("still 999", x.count(4), 999);
        x.undo();
        x.undo();
        x.summers(2);
        due("two from 998", x.count(4), 999);
        x.undo();
        due("behind it all", x.count(4), 998);
        SteepleStruck y = Made.later(new SteepleStruck(), 939);
        y.summers(60);
        due("60 from 939", y.count(4), 999);
        y.undo();
        y.summers(1);
        y.summers(60);
        due("60 from 940", y.count(4), 999);
    }

    private static void lastSummer() {
        // summers 996 .. 999 have storms 0 .. 3: the one of 998 comes, that of 999 never
        SteepleStruck x = Made.later(Made.him(), 998);
        x.storm(2, 0, 7);
        x.storm(3, 0, 1);
        x.summers(60);
        due("only summer 998 goes by", x.count(5), 7);
        x.summers(60);
        due("at 999 none", x.count(5), 7);
        due("no part comes either", Made.bodies(x, 0).about(0, 1), 0);
        due("no part comes either", x.summers(1), 0);
    }

    private static void storms() {
        Sentences.at("STORMS of 6 summers (SUMMER y has that of y by 6 left over)");
        SteepleStruck x = Made.him();
        for (int y = 0; y < 6; y++) {
            due("summer " + y, x.storm(y, 0, y + 1), 0);
        }
        int[] charges = {1, 3, 6, 10, 15, 21, 22, 24, 27, 31, 36, 42, 43};
        for (int y = 0; y < charges.length; y++) {
            x.summers(1);
            due("summer " + y + " by 6 left over", x.count(5), charges[y]);
        }
        Whole.bad("a storm of summer -1", y -> y.storm(-1, 0, 1));
        Whole.bad("a storm of summer 6", y -> y.storm(6, 0, 1));

        Sentences.at("a CELL (0 .. 11; 0 at first), a STRENGTH (0 .. 9; 0 at first: none comes)");
        SteepleStruck z = Made.him();
        for (int y = 0; y < 6; y++) {
            due("cell 0 at first", z.weather(y, 0), 0);
            due("strength 0 at first", z.weather(y, 1), 0);
        }
        z.summers(60);
        due("none comes", z.count(5), 0);
        due("cell 11, strength 9", z.storm(0, 11, 9), 0);
        due("cell 11", z.weather(0, 0), 11);
        due("strength 9", z.weather(0, 1), 9);
        due("cell 0, strength 0", z.storm(0, 0, 0), 9);
        due("cell 0", z.weather(0, 0), 0);
        due("strength 0", z.weather(0, 1), 0);
        for (int wrong : new int[] {-1, 12}) {
            Whole.bad("cell " + wrong, y -> y.storm(0, wrong, 0));
        }
        for (int wrong : new int[] {-1, 10}) {
            Whole.bad("strength " + wrong, y -> y.storm(0, 0, wrong));
        }
    }

    /** HE with so much charge, no part, in some summer, no storm to come. */
    private static SteepleStruck charged(int charge) {
        SteepleStruck x = Made.stormy(Made.him(), 9);
        Made.later(x, charge / 9);
        if (charge % 9 > 0) {
            Made.stormy(x, charge % 9).summers(1);
        }
        Made.stormy(x, 0);
        due("charge", x.count(5), charge);
        return x;
    }

    private static void charge() {
        Sentences.at("CHARGE of HIM (0 .. 999; 0 at first).");
        due("0 at first", Made.him().count(5), 0);
        SteepleStruck x = charged(998);
        x.storm(x.count(4) % 6, 0, 1);
        x.summers(1);
        due("1 more than 998", x.count(5), 999);
        Made.stormy(x, 1).summers(1);
        due("1 more than 999", x.count(5), 999);
        // with 4 it may be 0 again
        x = Made.bodies(charged(4), 0);
        due("all of it is needed", x.summers(1), 1);
        due("0", x.count(5), 0);

        Sentences.at("CHARGE is by the STRENGTH more (999 at most)");
        x = charged(990);
        Made.stormy(x, 9).summers(1);
        due("9 more than 990", x.count(5), 999);
        x = charged(991);
        Made.stormy(x, 9).summers(1);
        due("9 more than 991", x.count(5), 999);
        x = charged(989);
        Made.stormy(x, 9).summers(1);
        due("9 more than 989", x.count(5), 998);
        // first the storm, 999 at most, then the part
        x = Made.bodies(charged(998), 0);
        Made.stormy(x, 9);
        due("beyond 999", x.then(1), 1);
        x.summers(1);
        due("999 less 4", x.count(5), 995);
    }

    private static void treeSteepleRod() {
        Sentences.at("0 TREE: t less f, 0 at least.");
        SteepleStruck x = Made.things(0, 3, 0, 0, 30, 0, 0, 1, 0);
        int[] tree = {3, 2, 1, 0, 0, 0, 0, 0, 0, 0, 0, 0};
        for (int f = 0; f < 12; f++) {
            due("3 high, " + f + " off", x.draws(0, f), tree[f]);
            due("30 high, " + f + " off", x.draws(1, f), 30 - f);
            due("1 high, " + f + " off", x.draws(2, f), f == 0 ? 1 : 0);
        }
        Sentences.at("1 STEEPLE (under TREE): 5 more than TREE.");
        x = Made.things(1, 3, 0, 1, 30, 11);
        for (int f = 0; f < 12; f++) {
            due("3 high, " + f + " off: 5 where a tree draws nothing, too", x.draws(0, f), tree[f] + 5);
            due("30 high, from the other end", x.draws(1, f), 24 + f);
        }
        Sentences.at("2 ROD (under TREE): twice TREE.");
        x = Made.things(2, 3, 0, 2, 30, 0);
        for (int f = 0; f < 12; f++) {
            due("3 high, " + f + " off", x.draws(0, f), 2 * tree[f]);
            due("30 high, " + f + " off", x.draws(1, f), 60 - 2 * f);
        }
    }

    private static void votedKiteCopper() {
        Sentences.at("3 VOTED (under ROD): as ROD in SUMMERS of an even number, else 0.");
        SteepleStruck x = Made.things(3, 3, 0);
        int[] even = {6, 4, 2, 0, 0};
        for (int y = 0; y < 4; y++) {
            for (int f = 0; f < even.length; f++) {
                due("in summer " + y + ", " + f + " off", x.draws(0, f), y % 2 == 0 ? even[f] : 0);
            }
            x.summers(1);
        }
        Made.later(x, 994);
        due("in summer 998", x.draws(0, 0), 6);
        x.summers(1);
        due("in summer 999", x.draws(0, 0), 0);

        Sentences.at("4 KITE (under TREE): TREE, and 9, if f is 1 or less.");
        x = Made.things(4, 3, 5, 4, 1, 5);
        int[] kite = {0, 0, 0, 1, 11, 12, 11, 1, 0, 0, 0, 0};
        int[] low = {0, 0, 0, 0, 9, 10, 9, 0, 0, 0, 0, 0};
        for (int c = 0; c < 12; c++) {
            due("3 high, from cell " + c, x.draws(0, c), kite[c]);
            due("1 high, from cell " + c, x.draws(1, c), low[c]);
        }

        Sentences.at("5 COPPER (under STEEPLE): STEEPLE and y (5, if y is above that).");
        x = Made.things(5, 3, 0);
        int[] copper = {8, 9, 10, 11, 12, 13, 13, 13};
        for (int y = 0; y < copper.length; y++) {
            due("in summer " + y, x.draws(0, 0), copper[y]);
            due("in summer " + y + ", 11 off", x.draws(0, 11), copper[y] - 3);
            x.summers(1);
        }
        Made.later(x, 999);
        due("in summer 999", x.draws(0, 0), 13);
    }

    /** The kind that needs so much with n there in that summer, and one less, one more not. */
    private static void needs(String what, int kind, int n, int y, int x) {
        for (int other = x - 1; other <= x + 1; other++) {
            SteepleStruck z = Made.bodies(new SteepleStruck(), kind);
            z.mark(0, n, y, other);
            due(what + ": " + other + " with " + n + " there in summer " + y, z.kinds(0) >> kind & 1, other == x ? 1 : 0);
        }
    }

    private static void needs() {
        Sentences.at("how much CHARGE one needs, n (0 .. 5) being there already, in SUMMER y");
        SteepleStruck x = Made.bodies(Made.stormy(Made.him(), 1), 1, 1, 1, 1, 1, 1);
        int[] coats = {4, 6, 8, 10, 12, 14};
        for (int n = 0; n < 6; n++) {
            due("a coat, " + n + " being there", x.about(n, 2), coats[n]);
            x.summers(coats[n] - 1);
            due("1 is wanting", x.count(3), n);
            x.summers(1);
            due("one more is there", x.count(3), n + 1);
        }
        String[] sentences = {"0 FOOT: 4.", "1 COAT (under FOOT): FOOT and twice n.", "2 HAND (under FOOT): FOOT less 1, if y is an odd number.",
            "3 NOSE (under COAT): half (cut up) of COAT.", "4 BROW (under COAT): COAT and 6.",
            "5 HAT (under HAND): HAND, but 1, if n is 3 or more."};
        int[][] even = {{4, 4, 4, 4, 4, 4}, {4, 6, 8, 10, 12, 14}, {4, 4, 4, 4, 4, 4}, {2, 3, 4, 5, 6, 7}, {10, 12, 14, 16, 18, 20}, {4, 4, 4, 1, 1, 1}};
        int[][] odd = {{4, 4, 4, 4, 4, 4}, {4, 6, 8, 10, 12, 14}, {3, 3, 3, 3, 3, 3}, {2, 3, 4, 5, 6, 7}, {10, 12, 14, 16, 18, 20}, {3, 3, 3, 1, 1, 1}};
        for (int kind = 0; kind < 6; kind++) {
            Sentences.at(sentences[kind]);
            for (int n = 0; n < 6; n++) {
                for (int y : new int[] {0, 1, 2, 98, 99}) {
                    needs("kind " + kind, kind, n, y, y % 2 == 0 ? even[kind][n] : odd[kind][n]);
                }
            }
        }
        Sentences.at("5 HAT (under HAND): HAND, but 1, if n is 3 or more.");
        // feet for 4 each: with two there the hat needs 3 in summer 1, 4 in summer 2; with three 1
        x = Made.bodies(charged(8), 0, 0, 0, 5);
        x.summers(1);
        due("two there", x.count(3), 2);
        due("with two there", x.about(3, 2), x.count(4) % 2 == 0 ? 4 : 3);
        Made.stormy(x, 4).summers(1);
        due("three there", x.count(3), 3);
        due("with three there", x.about(3, 2), 1);
    }

    private static void strikes() {
        Sentences.at("STRIKES the THING that is up and DRAWS most (of like ones the least number), if that is 1 or more; else nothing.");
        SteepleStruck x = Made.things(0, 3, 0, 0, 4, 0, 0, 4, 0, 0, 5, 11);
        due("most", x.struck(0), 1);
        due("like ones", x.struck(3), 1);
        due("1 is enough: 1 of thing 3, 0 of the others", x.struck(7), 3);
        due("of the last ones 0", x.struck(5), NONE);
        due("of all 0", x.struck(4), NONE);
        due("2 of thing 3", x.struck(8), 3);
        x.takes(1);
        due("of like ones the next", x.struck(0), 2);
        x.takes(2);
        due("1 less is the most now", x.struck(0), 0);
        due("1 is enough", x.struck(2), 0);
        due("0 is not", x.struck(3), NONE);
        x.takes(0);
        due("none is up there", x.struck(0), NONE);
        due("no thing", new SteepleStruck().struck(0), NONE);
        // like HIM: HE has the least number
        due("like HIM", Made.things(0, 3, 0, 0, 3, 0).struck(0), 0);
        due("1 more than HE", Made.things(0, 3, 0, 0, 4, 0).struck(0), 1);
        // a VOTED one draws nothing in an odd summer
        x = Made.things(3, 30, 0);
        due("in summer 0", x.struck(0), 0);
        x.summers(1);
        due("in summer 1", x.struck(0), NONE);
        // the last number may be the one
        due("thing 5", Made.things(0, 1, 0, 0, 2, 0, 0, 3, 0, 0, 4, 0, 0, 5, 0, 0, 6, 0).struck(0), 5);
    }

    private static void summer() {
        Sentences.at("its STORM, if its STRENGTH is 1 or more; if HE is STRUCK, CHARGE is by the STRENGTH more");
        SteepleStruck x = Made.him();
        x.storm(1, 0, 1);
        x.summers(1);
        due("strength 0", x.count(5), 0);
        x.summers(1);
        due("strength 1", x.count(5), 1);
        x = Made.things(0, 2, 0);
        x.storm(0, 2, 9);
        x.storm(1, 1, 9);
        x.summers(1);
        due("2 off: HE draws 0", x.count(5), 0);
        x.summers(1);
        due("1 off: HE draws 1", x.count(5), 9);
        x = Made.stormy(Made.things(0, 2, 0, 0, 2, 0, 0, 3, 0), 5);
        x.summers(1);
        due("another draws 1 more", x.count(5), 0);
        x.takes(2);
        x.summers(1);
        due("another draws as much", x.count(5), 5);
        due("no HE at all", Made.stormy(new SteepleStruck(), 9).summers(60), 0);

        Sentences.at("as long as CHARGE is as much as the first PART (by numbers) that is not there needs, that is there, CHARGE less by it;"
            + " the SUMMER is one more.");
        x = Made.bodies(charged(3), 0);
        due("3 of 4", x.summers(1), 0);
        due("nothing is spent", x.count(5), 3);
        x = Made.bodies(charged(4), 0);
        due("4 of 4", x.summers(1), 1);
        due("all is spent", x.count(5), 0);
        x = Made.bodies(charged(7), 0, 0);
        due("7 of 8", x.summers(1), 1);
        due("what rests", x.count(5), 3);
        x = Made.bodies(charged(8), 0, 0);
        due("8 of 8", x.summers(1), 2);
        // the first that is not there stops those behind it, cheaper ones too
        x = Made.bodies(charged(9), 4, 0);
        due("9 of 10 for the first", x.summers(1), 0);
        x = Made.bodies(charged(10), 4, 0);
        due("10 of 10 for the first", x.summers(1), 1);
        x = Made.bodies(charged(14), 4, 0);
        due("14 for both", x.summers(1), 2);
        // all six in one summer: 4, 4, 4, 4, 4, 4
        x = Made.bodies(charged(24), 0, 0, 0, 0, 0, 0);
        due("24 for six feet", x.summers(1), 6);
        due("all is spent", x.count(5), 0);
        x = Made.bodies(charged(23), 0, 0, 0, 0, 0, 0);
        due("23 for six feet", x.summers(1), 5);
        x = Made.bodies(charged(999), 0, 0, 0, 0, 0, 0);
        due("999 for six feet", x.summers(1), 6);
        due("what rests when all are there", x.count(5), 975);
        // what is needed is as in this summer: the next one is not yet
        x = Made.bodies(charged(3), 2);
        due("summer 1", x.count(4), 1);
        due("a hand for 3 in summer 1", x.summers(1), 1);
        due("one more", x.count(4), 2);
        x = Made.bodies(Made.later(charged(3), 1), 2);
        due("none for 3 in summer 2", x.summers(1), 0);
        due("one for 3 in summer 3", x.summers(1), 1);
        due("one more each", x.count(4), 4);
    }
}
