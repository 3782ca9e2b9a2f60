/** Promise by promise, with answers worked out by hand from the document. */
public final class PromiseTests {
    private PromiseTests() {
    }

    private static void due(String what, long got, long want) {
        Check.due(what, got, want);
    }

    /** Things as kind, height, cell, one behind the other. */
    private static SteepleStruck things(int... told) {
        SteepleStruck x = new SteepleStruck();
        for (int i = 0; i + 2 < told.length; i += 3) {
            due("thing", x.thing(told[i], told[i + 1], told[i + 2]), i / 3);
        }
        return x;
    }

    private static void bodies(SteepleStruck x, int... kinds) {
        for (int i = 0; i < kinds.length; i++) {
            due("body", x.body(kinds[i]), i);
        }
    }

    private static void storms(SteepleStruck x, int... cellsAndStrengths) {
        for (int i = 0; i + 1 < cellsAndStrengths.length; i += 2) {
            x.storm(i / 2, cellsAndStrengths[i], cellsAndStrengths[i + 1]);
        }
    }

    private static long fold(long... values) {
        long h = 1621;
        for (long v : values) {
            h = 31 * h + v;
        }
        return h;
    }

    private static int type(SteepleStruck x, String text) {
        int last = 0;
        for (int i = 0; i < text.length(); i++) {
            last = x.type(text.charAt(i));
        }
        return last;
    }

    private static void promise1() {
        SteepleStruck x = new SteepleStruck();
        for (int what = 0; what <= 10; what++) {
            due("1 count(" + what + ")", x.count(what), 0);
        }
        for (int y = 0; y < 6; y++) {
            due("1 cell", x.weather(y, 0), 0);
            due("1 strength", x.weather(y, 1), 0);
        }
        for (int what = 0; what < 3; what++) {
            due("1 status", x.status(what), 0);
        }
        due("1 above", x.part(0), 0);
        due("1 below", x.part(1), 1);
        due("1 no image", x.from(0), SteepleStruck.NO);
        due("1 no image", x.from(1), SteepleStruck.NO);
        due("NONE", SteepleStruck.NONE, -1);
        due("BAD", SteepleStruck.BAD, -2);
        due("NO", SteepleStruck.NO, -3);
        due("FULL", SteepleStruck.FULL, -4);
    }

    private static void promise2() {
        SteepleStruck x = things(0, 5, 3, 1, 2, 3);
        storms(x, 3, 9, 1, 1);
        bodies(x, 0, 0);
        x.seen(3, 0);
        x.note(0, 1, 1, 1, 1);
        x.mark(0, 1, 1, 1);
        due("2 image", x.image(1), 1);
        x.falls(3, 5);
        due("2 above ahead", x.part(0), 1);
        type(x, "abc");
        x.summers(3);
        x.takes(0);
        x.thing(9, 9, 9);
        due("2 village", x.village(), 2);
        for (int what = 0; what < 10; what++) {
            due("2 count(" + what + ")", x.count(what), 0);
        }
        due("2 the text stays", x.count(10), 3);
        due("2 the fraction stays", x.part(1), 4);
        due("2 status stays", x.status(0), 1);
        due("2 storms as at first", x.weather(0, 0) + x.weather(0, 1) + x.weather(1, 0) + x.weather(1, 1), 0);
        due("2 nothing to undo", x.undo(), SteepleStruck.NO);
        due("2 the image stays", x.from(1), 1);
        due("2 its things", x.count(0), 2);
        due("2 village again", x.village(), 2);
        due("2 an empty one", x.village(), 0);
    }

    private static void promise3() {
        SteepleStruck x = new SteepleStruck();
        due("3 at first", x.storm(0, 11, 9), 0);
        due("3 then", x.storm(0, 4, 0), 9);
        due("3 none", x.storm(0, 5, 3), 0);
        due("3 the last one", x.storm(5, 0, 7), 0);
        due("3 kept", x.weather(0, 0) * 10 + x.weather(0, 1), 53);
        due("3 kept", x.weather(5, 0) * 10 + x.weather(5, 1), 7);
        int[][] wrong = {{-1, 0, 0}, {6, 0, 0}, {0, -1, 0}, {0, 12, 0}, {0, 0, -1}, {0, 0, 10}};
        for (int[] one : wrong) {
            due("3 BAD", x.storm(one[0], one[1], one[2]), SteepleStruck.BAD);
        }
        due("3 BAD ones counted", x.status(0), 6);
        due("3 as it was", x.weather(0, 0) * 10 + x.weather(0, 1), 53);
        x.summers(1);
        x.storm(9, 9, 9);
        due("3 a BAD one may be undone over", x.count(9), 1);
        x.storm(0, 5, 3);
        due("3 nothing to undo behind a storm told", x.count(9), 0);
        due("3 NO", x.undo(), SteepleStruck.NO);
    }

    private static void promise4() {
        SteepleStruck x = new SteepleStruck();
        int[][] wrong = {{-1, 1, 0}, {6, 1, 0}, {0, 0, 0}, {0, 31, 0}, {0, 1, -1}, {0, 1, 12}};
        for (int[] one : wrong) {
            due("4 BAD", x.thing(one[0], one[1], one[2]), SteepleStruck.BAD);
        }
        due("4 none came", x.count(0), 0);
        for (int k = 0; k < 6; k++) {
            x.summers(1);
            due("4 its number", x.thing(k, k == 0 ? 1 : 25 + k, 11 - k), k);
            due("4 nothing to undo", x.count(9), 0);
            due("4 up at first", x.of(k, 3), 1);
        }
        x.summers(1);
        due("4 FULL", x.thing(0, 1, 0), SteepleStruck.FULL);
        due("4 BAD ahead of FULL", x.thing(6, 1, 0), SteepleStruck.BAD);
        due("4 still to undo", x.count(9), 1);
        due("4 six", x.count(0), 6);
        due("4 counted", x.status(0) * 10 + x.status(2), 71);
        due("4 kept", x.of(5, 0) * 10000 + x.of(5, 1) * 100 + x.of(5, 2), 53006);
    }

    private static void promise5() {
        SteepleStruck x = new SteepleStruck();
        due("5 BAD", x.body(-1), SteepleStruck.BAD);
        due("5 BAD", x.body(6), SteepleStruck.BAD);
        for (int p = 0; p < 6; p++) {
            x.summers(1);
            due("5 its number", x.body(5 - p), p);
            due("5 nothing to undo", x.count(9), 0);
            due("5 its kind", x.about(p, 0), 5 - p);
            due("5 not there at first", x.about(p, 1), 0);
        }
        x.summers(1);
        due("5 FULL", x.body(0), SteepleStruck.FULL);
        due("5 BAD ahead of FULL", x.body(6), SteepleStruck.BAD);
        due("5 still to undo", x.count(9), 1);
        due("5 six", x.count(2), 6);
        due("5 counted", x.status(0) * 10 + x.status(2), 31);
    }

    private static void promise6() {
        SteepleStruck x = new SteepleStruck();
        due("6 BAD", x.type(-1), SteepleStruck.BAD);
        due("6 BAD", x.type(128), SteepleStruck.BAD);
        for (int i = 0; i < 150; i++) {
            due("6 how many", x.type(i % 128), i + 1);
        }
        due("6 FULL", x.type(0), SteepleStruck.FULL);
        due("6 BAD ahead of FULL", x.type(128), SteepleStruck.BAD);
        due("6 150", x.count(10), 150);
        due("6 counted", x.status(0) * 10 + x.status(2), 31);
    }

    private static void promise7() {
        SteepleStruck x = new SteepleStruck();
        due("7 nothing", x.clear(), 0);
        type(x, "village;");
        due("7 how many", x.clear(), 8);
        due("7 empty", x.count(10), 0);
        due("7 empty", x.read(), -10);
        due("7 from the first again", x.type('v'), 1);
    }

    private static void promise8() {
        SteepleStruck x = things(0, 1, 1);
        x.seen(1, 0);
        x.note(0, 1, 1, 1, 1);
        x.body(0);
        x.mark(0, 1, 1, 1);
        x.storm(5, 5, 5);
        x.image(0);
        x.falls(1, 5);
        x.summers(1);
        type(x, "village;storm 0 3 9;thing 5 30 3;thing 2 1 0;part 0;part 1;take 1;summers 1;");
        due("8 items", x.read(), 8);
        due("8 things", x.count(0), 2);
        due("8 up", x.count(1), 1);
        due("8 parts", x.count(2), 2);
        due("8 there", x.count(3), 1);
        due("8 summer", x.count(4), 1);
        due("8 charge", x.count(5), 5);
        due("8 none seen, no notes, no marks, nothing to undo", x.count(6) + x.count(7) + x.count(8) + x.count(9), 0);
        due("8 the text stays", x.count(10), 76);
        due("8 the fraction stays", x.part(1), 2);
        due("8 a storm of old is gone", x.weather(5, 0) + x.weather(5, 1), 0);
        due("8 the storm", x.weather(0, 0) * 10 + x.weather(0, 1), 39);
        due("8 a thing", x.of(0, 0) * 10000 + x.of(0, 1) * 100 + x.of(0, 2), 53003);
        due("8 down", x.of(1, 3), 0);
        due("8 the same once more", x.read(), 8);
        due("8 the same charge", x.count(5), 5);
        x.type('x');
        due("8 the fault", x.read(), -10 - 76);
        due("8 no refusal counted", x.status(0) + x.status(1) + x.status(2), 0);
        due("8 all stays", x.count(4), 1);
        due("8 the image stays", x.from(0), 1);
        due("8 of old", x.of(0, 1), 1);
    }

    private static void promise9() {
        SteepleStruck x = things(0, 2, 3);
        due("9 BAD", x.summers(0), SteepleStruck.BAD);
        due("9 BAD", x.summers(61), SteepleStruck.BAD);
        due("9 BAD", x.summers(-1), SteepleStruck.BAD);
        due("9 none went by", x.count(4) + x.count(9), 0);
        storms(x, 3, 1, 2, 2, 1, 9, 4, 0, 4, 4, 5, 9);
        bodies(x, 0, 1, 2, 3);
        due("9 struck", x.summers(1), 0);
        due("9 charge", x.count(5), 1);
        due("9 struck from beside", x.summers(1), 0);
        due("9 charge", x.count(5), 3);
        due("9 too far off", x.summers(1), 0);
        due("9 charge", x.count(5), 3);
        due("9 no storm", x.summers(1), 0);
        due("9 a foot for 4", x.summers(1), 1);
        due("9 what rests", x.count(5), 3);
        due("9 five summers", x.count(4), 5);
        due("9 five to undo", x.count(9), 5);
        // summers 5, 6, 7: nothing, 1 and 2 more: 6 are what a coat behind a foot needs
        due("9 together", x.summers(3), 2);
        due("9 what rests", x.count(5), 0);
        due("9 one to undo", x.count(9), 6);
        due("9 60 at most", x.summers(60), 4);

        x = things(5, 30, 0);
        storms(x, 0, 9);
        bodies(x, 2, 5, 0);
        // as long as there is charge: 4, 4 of 9, then 4 are wanting with 1
        due("9 two at once", x.summers(1), 2);
        due("9 what rests", x.count(5), 1);
        x = things(5, 30, 0);
        storms(x, 0, 9, 0, 9);
        bodies(x, 4, 0);
        // the first that is not there needs 10, the next one would need 4
        due("9 only the first by numbers", x.summers(1), 0);
        due("9 charge", x.count(5), 9);
        due("9 both", x.summers(1), 2);
        due("9 charge", x.count(5), 4);

        x = things(5, 30, 0);
        storms(x, 0, 7, 0, 7, 0, 7, 0, 7, 0, 7, 0, 7);
        x.summers(60);
        x.summers(60);
        due("9 charge", x.count(5), 840);
        x.summers(22);
        due("9 charge", x.count(5), 994);
        x.summers(1);
        due("9 999 at most", x.count(5), 999);
        for (int i = 0; i < 14; i++) {
            x.summers(60);
        }
        due("9 summer", x.count(4), 983);
        x.summers(16);
        due("9 summer", x.count(4), 999);
        bodies(x, 0);
        due("9 at 999 none goes by", x.summers(1), 0);
        due("9 still", x.count(4), 999);
        due("9 it may be undone", x.count(9), 1);
        due("9 to 999", x.undo(), 999);
    }

    private static void promise9OtherThings() {
        SteepleStruck x = things(0, 5, 0, 1, 1, 0);
        storms(x, 0, 9, 0, 9);
        x.summers(1);
        due("9 another is struck", x.count(5), 0);
        x.takes(1);
        x.summers(1);
        due("9 HE is", x.count(5), 9);
        x = things(0, 5, 0);
        storms(x, 0, 9);
        x.takes(0);
        x.summers(1);
        due("9 HE is down", x.count(5), 0);
        // charge is there already: a part comes without a storm
        x = things(0, 5, 0);
        storms(x, 0, 9);
        x.summers(1);
        x.body(0);
        due("9 by the charge of old", x.summers(1), 1);
        due("9 what rests", x.count(5), 5);
    }

    private static void promise10() {
        SteepleStruck x = things(0, 1, 0, 0, 1, 0);
        due("10 down", x.takes(0), 0);
        due("10 the other is up", x.of(1, 3), 1);
        due("10 up", x.takes(0), 1);
        due("10 down", x.takes(1), 0);
        due("10 up ones", x.count(1), 1);
        due("10 to undo", x.count(9), 3);
        due("10 BAD", x.takes(2), SteepleStruck.BAD);
        due("10 BAD", x.takes(-1), SteepleStruck.BAD);
        due("10 to undo", x.count(9), 3);
    }

    private static void promise11() {
        SteepleStruck x = things(5, 30, 0, 0, 1, 5);
        due("11 NO", x.undo(), SteepleStruck.NO);
        due("11 counted", x.status(1), 1);
        storms(x, 0, 9, 0, 9, 0, 9, 0, 9, 0, 9, 0, 9);
        bodies(x, 0, 0, 0);
        x.summers(1);
        x.takes(1);
        x.takes(0);
        x.summers(2);
        due("11 there", x.count(3), 2);
        due("11 charge", x.count(5), 1);
        due("11 back", x.undo(), 1);
        due("11 down", x.of(0, 3), 0);
        due("11 back", x.undo(), 1);
        due("11 up", x.of(0, 3) * 10 + x.of(1, 3), 10);
        due("11 back", x.undo(), 1);
        due("11 up", x.of(0, 3) * 10 + x.of(1, 3), 11);
        due("11 there", x.count(3), 2);
        due("11 back", x.undo(), 0);
        due("11 not there", x.count(3) + x.about(0, 1) + x.about(1, 1), 0);
        due("11 no charge", x.count(5), 0);
        due("11 NO", x.undo(), SteepleStruck.NO);

        for (int i = 0; i < 10; i++) {
            x.summers(i + 1);
        }
        due("11 8 at most", x.count(9), 8);
        int[] back = {45, 36, 28, 21, 15, 10, 6, 3};
        for (int summer : back) {
            due("11 one behind the other", x.undo(), summer);
        }
        due("11 no more", x.undo(), SteepleStruck.NO);
        due("11 where it stands", x.count(4), 3);
        // what was seen stays
        x.summers(1);
        x.seen(0, 0);
        x.undo();
        due("11 seen", x.count(6), 1);
        // of two summers the later one brings 9, and the charge goes back to 9
        SteepleStruck z = things(5, 30, 0);
        storms(z, 0, 9, 0, 9);
        z.summers(1);
        z.summers(1);
        due("11 charge", z.count(5), 18);
        due("11 back", z.undo(), 1);
        due("11 charge", z.count(5), 9);
        x.summers(1);
        x.forget(0);
        x.image(0);
        due("11 neither seen nor an image ends it", x.undo(), 3);
    }

    private static void promise12() {
        SteepleStruck x = things(5, 30, 11, 1, 2, 3);
        due("12 kind", x.of(0, 0), 5);
        due("12 height", x.of(0, 1), 30);
        due("12 cell", x.of(0, 2), 11);
        due("12 up", x.of(0, 3), 1);
        due("12 kind", x.of(1, 0), 1);
        due("12 height", x.of(1, 1), 2);
        due("12 cell", x.of(1, 2), 3);
        x.takes(1);
        due("12 down", x.of(1, 3), 0);
        int[][] wrong = {{-1, 0}, {2, 0}, {0, -1}, {0, 4}};
        for (int[] one : wrong) {
            due("12 BAD", x.of(one[0], one[1]), SteepleStruck.BAD);
        }
        due("12 counted", x.status(0), 4);
    }

    private static void promise13() {
        SteepleStruck x = things(5, 30, 0);
        storms(x, 0, 4);
        bodies(x, 0, 1, 2, 3, 4, 5);
        int[] needs = {4, 4, 4, 2, 10, 4};
        for (int p = 0; p < 6; p++) {
            due("13 kind", x.about(p, 0), p);
            due("13 not there", x.about(p, 1), 0);
            due("13 needs at first", x.about(p, 2), needs[p]);
        }
        x.summers(1);
        int[] odd = {4, 6, 3, 3, 12, 3};
        for (int p = 0; p < 6; p++) {
            due("13 there", x.about(p, 1), p == 0 ? 1 : 0);
            due("13 needs in summer 1, one there", x.about(p, 2), odd[p]);
        }
        storms(x, 0, 9, 0, 9, 0, 9, 0, 9, 0, 9, 0, 9);
        x.summers(2);
        // coat 6, then hand 4 of 18; the nose needs 10 / 2 of what rests, 8 - 5
        due("13 three or four there", x.count(3), 4);
        int[] many = {4, 12, 3, 6, 18, 1};
        for (int p = 0; p < 6; p++) {
            due("13 needs in summer 3, four there", x.about(p, 2), many[p]);
        }
        x.summers(9);
        due("13 all there", x.count(3), 6);
        int[] all = {4, 16, 4, 8, 22, 1};
        for (int p = 0; p < 6; p++) {
            due("13 needs in summer 12, six there", x.about(p, 2), all[p]);
        }
        int[][] wrong = {{-1, 0}, {6, 0}, {0, -1}, {0, 3}};
        for (int[] one : wrong) {
            due("13 BAD", x.about(one[0], one[1]), SteepleStruck.BAD);
        }
        due("13 counted", x.status(0), 4);
    }

    private static void promise14() {
        SteepleStruck x = new SteepleStruck();
        storms(x, 11, 9, 1, 2, 3, 4, 5, 6, 7, 8, 9, 7);
        int[] cells = {11, 1, 3, 5, 7, 9};
        int[] strengths = {9, 2, 4, 6, 8, 7};
        for (int y = 0; y < 6; y++) {
            due("14 cell", x.weather(y, 0), cells[y]);
            due("14 strength", x.weather(y, 1), strengths[y]);
        }
        int[][] wrong = {{-1, 0}, {6, 0}, {0, -1}, {0, 2}};
        for (int[] one : wrong) {
            due("14 BAD", x.weather(one[0], one[1]), SteepleStruck.BAD);
        }
        due("14 counted", x.status(0), 4);
    }

    private static void promise15() {
        SteepleStruck x = things(0, 4, 5, 1, 4, 5, 2, 4, 5, 3, 4, 5, 4, 4, 5, 5, 4, 5);
        int[][] summer0 = {{4, 9, 8, 8, 13, 9}, {3, 8, 6, 6, 12, 8}, {2, 7, 4, 4, 2, 7}, {0, 5, 0, 0, 0, 5}, {0, 5, 0, 0, 0, 5}};
        int[] cells = {5, 4, 7, 1, 11};
        for (int i = 0; i < cells.length; i++) {
            for (int k = 0; k < 6; k++) {
                due("15 kind " + k + " from " + cells[i], x.draws(k, cells[i]), summer0[i][k]);
            }
        }
        x.takes(2);
        due("15 down it draws as well", x.draws(2, 5), 8);
        x.summers(1);
        int[] summer1 = {4, 9, 8, 0, 13, 10};
        for (int k = 0; k < 6; k++) {
            due("15 kind " + k + " in summer 1", x.draws(k, 5), summer1[k]);
        }
        x.summers(4);
        due("15 copper in 5", x.draws(5, 5), 14);
        due("15 voted in 5", x.draws(3, 5), 0);
        x.summers(1);
        due("15 copper in 6", x.draws(5, 5), 14);
        due("15 voted in 6", x.draws(3, 5), 8);
        int[][] wrong = {{-1, 0}, {6, 0}, {0, -1}, {0, 12}};
        for (int[] one : wrong) {
            due("15 BAD", x.draws(one[0], one[1]), SteepleStruck.BAD);
        }
        due("15 counted", x.status(0), 4);
    }

    private static void promise16() {
        SteepleStruck x = things(0, 2, 0, 0, 3, 1, 0, 3, 1, 2, 1, 11);
        due("16 there are like ones: the least number", x.struck(0), 0);
        due("16 most", x.struck(1), 1);
        due("16 most", x.struck(3), 1);
        due("16 none draws", x.struck(5), SteepleStruck.NONE);
        due("16 the rod", x.struck(11), 3);
        x.takes(1);
        due("16 the next of like ones", x.struck(1), 2);
        x.takes(3);
        due("16 none is up there", x.struck(11), SteepleStruck.NONE);
        due("16 BAD", x.struck(-1), SteepleStruck.BAD);
        due("16 BAD", x.struck(12), SteepleStruck.BAD);
        due("16 counted", x.status(0), 2);
        due("16 no thing", new SteepleStruck().struck(0), SteepleStruck.NONE);
    }

    private static SteepleStruck byFours() {
        SteepleStruck x = things(5, 30, 0);
        storms(x, 0, 4, 0, 0, 0, 4, 0, 0, 0, 4, 0, 0);
        bodies(x, 0, 0, 0, 0);
        return x;
    }

    private static void promise17() {
        SteepleStruck x = byFours();
        int[] there = {0, 1, 1, 3, 3, 7, 7, 15, 15};
        long before = x.digest();
        for (int m = 0; m < there.length; m++) {
            due("17 behind " + m, x.then(m), there[m]);
        }
        due("17 behind 60", x.then(60), 15);
        due("17 nothing is changed", x.digest(), before);
        x.summers(1);
        due("17 now", x.then(0), 1);
        due("17 behind 2", x.then(2), 3);
        due("17 BAD", x.then(-1), SteepleStruck.BAD);
        due("17 BAD", x.then(61), SteepleStruck.BAD);
        due("17 counted", x.status(0), 2);
        x = things(5, 30, 0);
        for (int i = 0; i < 17; i++) {
            x.summers(60);
        }
        x.storm(4, 0, 4);
        x.body(0);
        due("17 summer 999", x.count(4), 999);
        due("17 summer 999 has storm 3", x.then(1), 0);
        due("17 summers go on", x.then(2), 1);
    }

    private static void promise18() {
        SteepleStruck x = byFours();
        long before = x.digest();
        due("18 first", x.when(0), 1);
        due("18 second", x.when(1), 3);
        due("18 third", x.when(2), 5);
        due("18 fourth", x.when(3), 7);
        due("18 nothing is changed", x.digest(), before);
        x.summers(2);
        due("18 there", x.when(0), 0);
        due("18 second", x.when(1), 1);
        due("18 BAD", x.when(-1), SteepleStruck.BAD);
        due("18 BAD", x.when(4), SteepleStruck.BAD);
        due("18 counted", x.status(0), 2);
        // six storms a round bring 6: behind 60 summers 60 in all
        x = things(5, 30, 0);
        storms(x, 0, 1, 0, 1, 0, 1, 0, 1, 0, 1, 0, 1);
        bodies(x, 4, 4, 4, 4, 4, 0);
        int[] needs = {10, 12, 14, 16, 18};
        int sum = 0;
        for (int p = 0; p < 4; p++) {
            sum += needs[p];
            due("18 part " + p, x.when(p), sum);
        }
        due("18 in more than 60: none", x.when(4), SteepleStruck.NONE);
        x.summers(10);
        due("18 in 60", x.when(4), 60);
        for (int i = 0; i < 17; i++) {
            x.summers(60);
        }
        x.village();
        x.body(0);
        due("18 never", x.when(0), SteepleStruck.NONE);
        due("18 there is no other", x.when(1), SteepleStruck.BAD);
    }

    private static void promise19() {
        due("19 no thing", new SteepleStruck().whence(), 0);
        SteepleStruck x = things(0, 3, 5);
        due("19 alone", x.whence(), 0b11111000);
        x.thing(0, 3, 6);
        due("19 of like ones HE", x.whence(), 0b111000);
        x.thing(4, 1, 4);
        due("19 a kite", x.whence(), 0);
        x.takes(2);
        x.takes(1);
        due("19 alone", x.whence(), 0b11111000);
        x.takes(0);
        due("19 down", x.whence(), 0);
        due("19 all", things(1, 1, 0).whence(), 4095);
    }

    private static void promise20() {
        due("20 no thing", new SteepleStruck().lead(0), SteepleStruck.NONE);
        SteepleStruck x = things(0, 3, 5, 0, 4, 5, 1, 1, 0, 0, 3, 5, 2, 3, 6);
        due("20 three draw more", x.lead(5), 0b10110);
        due("20 a like one may stay up", x.lead(4), 0b00110);
        x.takes(2);
        due("20 down ones need not be taken down", x.lead(5), 0b10010);
        due("20 HE draws nothing there", x.lead(8), SteepleStruck.NONE);
        due("20 from the farthest", x.lead(3), 0b10);
        x.takes(1);
        due("20 struck already", x.lead(3), 0);
        due("20 BAD", x.lead(-1), SteepleStruck.BAD);
        due("20 BAD", x.lead(12), SteepleStruck.BAD);
        x.takes(0);
        due("20 HE is down", x.lead(5), SteepleStruck.NONE);
        due("20 counted", x.status(0), 2);
    }

    private static void promise21() {
        due("21 no thing", new SteepleStruck().spare(), 0);
        SteepleStruck x = things(0, 2, 5);
        due("21 HE alone", x.spare(), SteepleStruck.NONE);
        x.takes(0);
        due("21 HE is down", x.spare(), 0);
        x.takes(0);
        x.thing(4, 1, 4);
        due("21 not from 6", x.spare(), SteepleStruck.NONE);
        x.thing(4, 1, 6);
        due("21 two", x.spare(), 0b110);
        x.thing(0, 3, 5);
        due("21 the fewest", x.spare(), 0b1000);
        x.thing(4, 9, 5);
        due("21 of like ones the least", x.spare(), 0b1000);
        x.takes(3);
        due("21 down ones too", x.spare(), 0b1000);
        x = things(0, 2, 5, 0, 2, 5);
        due("21 of like ones HE is struck", x.spare(), SteepleStruck.NONE);
        // height 1: struck in one cell alone; a part of the row is enough
        x = things(0, 1, 11, 0, 2, 11);
        due("21 one cell", x.spare(), 0b10);
    }

    private static void promise22() {
        SteepleStruck x = new SteepleStruck();
        due("22 no part", x.order(99, SteepleStruck.NONE), 0);
        due("22 no part", x.order(99, 0), -5);
        bodies(x, 4, 1, 0);
        // brow 10, coat 4, foot 4 at first; each one there makes brow and coat 2 dearer
        due("22 none", x.order(3, SteepleStruck.NONE), 0);
        due("22 none come: rising", x.order(3, 0) * 100 + x.order(3, 1) * 10 + x.order(3, 2), 12);
        due("22 one", x.order(4, SteepleStruck.NONE), 1);
        due("22 the coat first", x.order(4, 0) * 100 + x.order(4, 1) * 10 + x.order(4, 2), 102);
        due("22 one", x.order(7, SteepleStruck.NONE), 1);
        due("22 two: coat 4, foot 4", x.order(8, SteepleStruck.NONE), 2);
        due("22 which", x.order(8, 0) * 100 + x.order(8, 1) * 10 + x.order(8, 2), 120);
        due("22 with 10 foot 4, coat 6 as well, but coat first is less", x.order(10, 0), 1);
        due("22 two with 14: brow 10, foot 4", x.order(14, 0) * 100 + x.order(14, 1) * 10 + x.order(14, 2), 21);
        due("22 three: coat, brow, foot are 4, 12, 4", x.order(20, SteepleStruck.NONE), 3);
        due("22 two with 19", x.order(19, SteepleStruck.NONE), 2);
        due("22 brow first: 10, 6, 4", x.order(20, 0) * 100 + x.order(20, 1) * 10 + x.order(20, 2), 12);
        due("22 no fourth", x.order(20, 3), -5);
        due("22 none counted", x.status(0) + x.status(1) + x.status(2), 0);
        due("22 BAD", x.order(-1, 0), -10);
        due("22 BAD", x.order(100, 0), -10);
        due("22 BAD", x.order(0, -2), -10);
        due("22 BAD", x.order(0, Integer.MIN_VALUE), -10);
        due("22 counted", x.status(0), 4);

        // coats 4, 6, 8, 10, 12, 14, behind one another; all alike, so rising
        x = new SteepleStruck();
        bodies(x, 1, 1, 1, 1, 1, 1);
        int[] sums = {4, 10, 18, 28, 40, 54};
        for (int i = 0; i < 6; i++) {
            due("22 one less", x.order(sums[i] - 1, SteepleStruck.NONE), i);
            due("22 so many coats", x.order(sums[i], SteepleStruck.NONE), i + 1);
            due("22 rising", x.order(sums[i], i), i);
        }
        // foot, brow, hat: with three there the hat is 1, yet first it is 4 (in summer 0)
        x = new SteepleStruck();
        bodies(x, 5, 4, 3, 0, 2);
        due("22 brow 10, nose 3, foot 4, then hat 1, hand 4", x.order(22, SteepleStruck.NONE), 5);
        due("22 there is no cheaper order of all five", x.order(21, SteepleStruck.NONE), 4);
        due("22 the first of all orders", x.order(99, 0) * 10000 + x.order(99, 1) * 1000 + x.order(99, 2) * 100
            + x.order(99, 3) * 10 + x.order(99, 4), 1234);

        x = things(5, 30, 0);
        storms(x, 0, 4);
        bodies(x, 0, 1, 2);
        x.summers(1);
        // the foot is there, the summer odd: hand 3; coat 6, behind the hand 8
        due("22 both, the coat first", x.order(9, SteepleStruck.NONE), 2);
        due("22 those not there", x.order(9, 0) * 10 + x.order(9, 1), 12);
        due("22 the hand", x.order(5, SteepleStruck.NONE) * 100 + x.order(5, 0) * 10 + x.order(5, 1), 121);
        due("22 no third", x.order(9, 2), -5);
    }

    private static void promise23() {
        SteepleStruck x = new SteepleStruck();
        due("23 no thing there", x.seen(0, 0), SteepleStruck.BAD);
        due("23 nothing struck", x.seen(0, SteepleStruck.NONE), 1);
        x.thing(0, 1, 0);
        due("23 the second", x.seen(11, 0), 2);
        due("23 BAD", x.seen(0, 1), SteepleStruck.BAD);
        due("23 BAD", x.seen(0, -2), SteepleStruck.BAD);
        due("23 BAD", x.seen(-1, 0), SteepleStruck.BAD);
        due("23 BAD", x.seen(12, 0), SteepleStruck.BAD);
        due("23 third", x.seen(0, 0), 3);
        due("23 fourth", x.seen(0, 0), 4);
        due("23 fifth", x.seen(0, 0), 5);
        due("23 FULL", x.seen(0, 0), SteepleStruck.FULL);
        due("23 BAD ahead of FULL", x.seen(12, 0), SteepleStruck.BAD);
        due("23 five", x.count(6), 5);
        due("23 counted", x.status(0) * 10 + x.status(2), 61);
    }

    private static void promise24() {
        SteepleStruck x = things(0, 9, 0, 0, 10, 5, 1, 1, 11);
        due("24 nothing seen: all", x.tall(0, 0), 30);
        x.seen(5, 1);
        // from 5 HE draws t - 5, the other one 10
        due("24 how many", x.tall(0, 0), 14);
        due("24 least", x.tall(0, 1), 1);
        due("24 greatest", x.tall(0, 2), 14);
        x.seen(0, 0);
        // from 0 the second draws 5, the steeple 5
        due("24 how many", x.tall(0, 0), 10);
        due("24 least", x.tall(0, 1), 5);
        due("24 greatest", x.tall(0, 2), 14);
        // the second is to draw 9 at most from 0, and from 5 more than HIS 4 and as much as the steeple's 5
        due("24 of the other", x.tall(1, 0) * 10000 + x.tall(1, 1) * 100 + x.tall(1, 2), 100514);
        x.takes(1);
        due("24 down: no height", x.tall(1, 0), 0);
        due("24 none", x.tall(1, 1), SteepleStruck.NONE);
        due("24 none", x.tall(1, 2), SteepleStruck.NONE);
        x.forget(0);
        x.seen(0, SteepleStruck.NONE);
        due("24 the steeple draws", x.tall(0, 0), 0);
        x.takes(2);
        due("24 HE draws", x.tall(0, 0), 0);
        x.takes(0);
        due("24 none is up: all", x.tall(0, 0) * 10000 + x.tall(0, 1) * 100 + x.tall(0, 2), 300130);
        int[][] wrong = {{-1, 0}, {3, 0}, {0, -1}, {0, 3}};
        for (int[] one : wrong) {
            due("24 BAD", x.tall(one[0], one[1]), SteepleStruck.BAD);
        }
        due("24 counted", x.status(0), 4);
        due("24 its height is as it was", x.of(0, 1), 9);
    }

    private static void promise25() {
        SteepleStruck x = things(0, 1, 0, 0, 1, 0);
        int[][] wrong = {{-1, 1, 0, 0, 0}, {2, 1, 0, 0, 0}, {0, 0, 0, 0, 0}, {0, 31, 0, 0, 0}, {0, 1, -1, 0, 0}, {0, 1, 12, 0, 0},
            {0, 1, 0, -1, 0}, {0, 1, 0, 100, 0}, {0, 1, 0, 0, -1}, {0, 1, 0, 0, 100}};
        for (int[] one : wrong) {
            due("25 BAD", x.note(one[0], one[1], one[2], one[3], one[4]), SteepleStruck.BAD);
        }
        due("25 first", x.note(0, 1, 0, 0, 0), 1);
        due("25 second", x.note(1, 30, 11, 99, 99), 2);
        for (int i = 3; i <= 6; i++) {
            due("25 more", x.note(0, 5, 5, 5, 5), i);
        }
        due("25 FULL", x.note(0, 5, 5, 5, 5), SteepleStruck.FULL);
        due("25 BAD ahead of FULL", x.note(2, 5, 5, 5, 5), SteepleStruck.BAD);
        due("25 six", x.count(7), 6);
        due("25 counted", x.status(0) * 10 + x.status(2), 111);
    }

    private static void promise26() {
        SteepleStruck x = new SteepleStruck();
        bodies(x, 0, 1);
        int[][] wrong = {{-1, 0, 0, 0}, {2, 0, 0, 0}, {0, -1, 0, 0}, {0, 6, 0, 0}, {0, 0, -1, 0}, {0, 0, 100, 0}, {0, 0, 0, -1},
            {0, 0, 0, 100}};
        for (int[] one : wrong) {
            due("26 BAD", x.mark(one[0], one[1], one[2], one[3]), SteepleStruck.BAD);
        }
        due("26 first", x.mark(0, 0, 0, 0), 1);
        due("26 second", x.mark(1, 5, 99, 99), 2);
        for (int i = 3; i <= 6; i++) {
            due("26 more", x.mark(0, 1, 2, 3), i);
        }
        due("26 FULL", x.mark(0, 0, 0, 0), SteepleStruck.FULL);
        due("26 BAD ahead of FULL", x.mark(2, 0, 0, 0), SteepleStruck.BAD);
        due("26 six", x.count(8), 6);
        due("26 counted", x.status(0) * 10 + x.status(2), 91);
    }

    private static void promise27() {
        SteepleStruck x = things(0, 1, 0);
        x.body(0);
        x.seen(0, 0);
        x.note(0, 1, 0, 0, 0);
        x.note(0, 1, 0, 0, 0);
        x.mark(0, 0, 0, 0);
        x.mark(0, 0, 0, 0);
        x.mark(0, 0, 0, 0);
        due("27 BAD", x.forget(-1), SteepleStruck.BAD);
        due("27 BAD", x.forget(3), SteepleStruck.BAD);
        due("27 notes", x.forget(1), 2);
        due("27 the others stay", x.count(6) * 100 + x.count(7) * 10 + x.count(8), 103);
        due("27 seen", x.forget(0), 1);
        due("27 marks", x.forget(2), 3);
        due("27 none is left", x.count(6) + x.count(7) + x.count(8), 0);
        due("27 none", x.forget(0) + x.forget(1) + x.forget(2), 0);
        due("27 counted", x.status(0), 2);
    }

    private static void promise28() {
        SteepleStruck x = things(0, 1, 0, 0, 1, 0);
        due("28 no note: all", x.is(0), 63);
        x.note(0, 10, 2, 1, 8);
        // tree 8, steeple 13, rod 16, voted 0, kite 8, copper 14
        due("28 tree, kite", x.is(0), 0b010001);
        due("28 not of the other", x.is(1), 63);
        x.note(0, 10, 1, 1, 18);
        due("28 kite", x.is(0), 0b010000);
        x.note(1, 10, 0, 4, 20);
        due("28 rod, voted", x.is(1), 0b001100);
        x.note(1, 10, 0, 7, 20);
        due("28 rod", x.is(1), 0b000100);
        x.note(1, 10, 0, 7, 21);
        due("28 none", x.is(1), 0);
        x.forget(1);
        x.note(0, 1, 11, 99, 10);
        due("28 copper", x.is(0), 0b100000);
        due("28 BAD", x.is(-1), SteepleStruck.BAD);
        due("28 BAD", x.is(2), SteepleStruck.BAD);
        due("28 counted", x.status(0), 2);
    }

    private static void promise29() {
        // height 30, no note: in summer 1 from 0 off 30, 35, 60, 0, 39, 36
        SteepleStruck x = things(0, 30, 0, 0, 5, 0, 0, 9, 0);
        due("29 all apart", x.look(0), 1);
        // height 5 from 0 off: steeple and rod are 10, from 1 off 4, 9, 8, 0, 13, 10
        due("29 from 1 off in summer 1", x.look(1), 101);
        x.note(2, 10, 2, 1, 8);
        due("29 tree, kite: apart from 0 off", x.look(2), 0);
        x.note(2, 10, 1, 1, 18);
        due("29 one alone", x.look(2), 0);
        x.note(2, 10, 1, 1, 99);
        due("29 no kind", x.look(2), SteepleStruck.NONE);
        due("29 BAD", x.look(-1), SteepleStruck.BAD);
        due("29 BAD", x.look(3), SteepleStruck.BAD);
        x.forget(1);
        // steeple, copper: apart from summer 1 on
        x.note(2, 9, 0, 0, 14);
        due("29 steeple, copper", x.is(2), 0b100010);
        due("29 in summer 1", x.look(2), 1);
        x.forget(1);
        // voted in an odd summer, and all that draw nothing from far off: tree, rod, voted, kite
        x.note(2, 1, 11, 1, 0);
        due("29 tree, rod, voted, kite", x.is(2), 0b011101);
        due("29 counted", x.status(0), 2);
        due("29 9, 18, 0, 18 from 0 off, 8, 16, 0, 17 from 1", x.look(2), 101);
    }

    private static void promise30() {
        SteepleStruck x = new SteepleStruck();
        bodies(x, 0, 0);
        due("30 no mark: all", x.kinds(0), 63);
        x.mark(0, 3, 1, 4);
        // foot 4, coat 10, hand 3, nose 5, brow 16, hat 1
        due("30 foot", x.kinds(0), 1);
        due("30 not of the other", x.kinds(1), 63);
        int[] needs = {4, 10, 3, 5, 16, 1};
        for (int kind = 0; kind < 6; kind++) {
            x.forget(2);
            x.mark(1, 3, 1, needs[kind]);
            due("30 kind " + kind, x.kinds(1), 1 << kind);
        }
        x.forget(2);
        x.mark(0, 0, 2, 4);
        due("30 foot, coat, hand, hat", x.kinds(0), 0b100111);
        x.mark(0, 2, 99, 3);
        due("30 hand, hat", x.kinds(0), 0b100100);
        x.mark(0, 5, 0, 99);
        due("30 none", x.kinds(0), 0);
        due("30 BAD", x.kinds(-1), SteepleStruck.BAD);
        due("30 BAD", x.kinds(2), SteepleStruck.BAD);
        due("30 counted", x.status(0), 2);
    }

    private static void promise31() {
        SteepleStruck x = new SteepleStruck();
        bodies(x, 0);
        due("31 all: three there, odd", x.ask(0), 31);
        x.mark(0, 0, 1, 3);
        // hand, hat: apart with three there
        due("31 hand, hat", x.ask(0), 30);
        x.mark(0, 4, 1, 1);
        due("31 hat alone", x.ask(0), 0);
        x.mark(0, 4, 1, 2);
        due("31 no kind", x.ask(0), SteepleStruck.NONE);
        x.forget(2);
        x.mark(0, 0, 1, 4);
        due("31 foot, coat: apart with one there", x.ask(0), 10);
        due("31 BAD", x.ask(-1), SteepleStruck.BAD);
        due("31 BAD", x.ask(1), SteepleStruck.BAD);
        due("31 counted", x.status(0), 2);
    }

    private static void promise32() {
        SteepleStruck x = things(5, 30, 0);
        storms(x, 0, 1, 0, 1, 0, 1, 0, 1, 0, 1, 0, 1);
        bodies(x, 0, 0, 5, 0);
        // in 4, 8, then 12 (or 11: the hat needs 3 in odd summers), none sooner
        due("32 in 4", x.when(0), 4);
        due("32 one pair", x.sweep(0, SteepleStruck.NONE), 1);
        due("32 both on 4", x.sweep(0, 0), 44);
        due("32 in 8", x.sweep(1, 0), 88);
        due("32 later than 10: both as near as can be", x.when(2), 12);
        due("32 99", x.sweep(2, 0), 99);
        due("32 one pair", x.sweep(2, SteepleStruck.NONE), 1);
        due("32 not so many", x.sweep(0, 1), -5);
        due("32 not so many", x.sweep(0, Integer.MAX_VALUE), -5);
        due("32 none counted", x.status(0) + x.status(1) + x.status(2), 0);
        due("32 BAD", x.sweep(-1, 0), -10);
        due("32 BAD", x.sweep(4, 0), -10);
        due("32 BAD", x.sweep(0, -2), -10);
        due("32 counted", x.status(0), 3);
        x.summers(4);
        due("32 there", x.sweep(0, 0), 0);
        due("32 in 4", x.sweep(1, 0), 44);
        x.takes(0);
        due("32 never", x.sweep(1, 0), 99);
    }

    private static void promise33() {
        SteepleStruck x = new SteepleStruck();
        due("33 no thing", x.falls(0, 3), 1);
        due("33 0 by 1", x.part(0) * 10 + x.part(1), 1);
        x.thing(0, 5, 5);
        x.falls(5, 0);
        due("33 HE stands", x.part(0) * 100 + x.part(1), 101);
        x.falls(5, 4);
        due("33 6 of 10", x.part(0) * 100 + x.part(1), 305);
        x.falls(5, 10);
        due("33 HE falls", x.part(0) * 100 + x.part(1), 1);
        x.falls(10, 4);
        due("33 HE draws nothing there", x.part(0) * 100 + x.part(1), 1);
        x.thing(0, 6, 5);
        x.thing(0, 5, 5);
        x.thing(4, 30, 5);
        x.falls(5, 3);
        // HE 7 of 10, two that draw more fall by 3 of 10, the like one may stand
        due("33 above", x.part(0), 63);
        due("33 below", x.part(1), 1000);
        x.falls(5, 0);
        due("33 they stand", x.part(0) * 100 + x.part(1), 1);
        x.takes(3);
        x.falls(5, 5);
        due("33 one of them is down", x.part(0) * 100 + x.part(1), 104);
        int[][] wrong = {{-1, 0}, {12, 0}, {0, -1}, {0, 11}};
        for (int[] one : wrong) {
            due("33 BAD", x.falls(one[0], one[1]), SteepleStruck.BAD);
        }
        due("33 as it was", x.part(0) * 100 + x.part(1), 104);
        due("33 counted", x.status(0), 4);
        x.takes(0);
        due("33 HE is down", x.falls(5, 5), 1);
        due("33 HE is down", x.part(0) * 100 + x.part(1), 1);
        x = things(0, 1, 0, 1, 1, 0, 1, 1, 0, 1, 1, 0, 1, 1, 0, 1, 1, 0);
        due("33 it answers 1", x.falls(0, 9), 1);
        due("33 9 by 9 by .. of six", x.part(0), 59049);
        due("33 of ten, six times", x.part(1), 1000000);
    }

    private static void promise34() {
        // from 0: 12345, 1406932606, 654583775, 1449466924, 229283573, 1109335178:
        // in 0 of 0, in 0 of 1, in 4 of 4, in 1 of 2, in 6 of 8, in 7 of 7
        SteepleStruck x = things(5, 30, 0);
        bodies(x, 0, 0, 0, 0, 0, 0);
        int[] there = {0, 0, 0, 1, 1, 3, 5};
        long before = x.digest();
        for (int n = 0; n < there.length; n++) {
            due("34 behind " + n, x.septembers(0, n), there[n]);
        }
        due("34 nothing is changed", x.digest(), before);
        x = things(0, 1, 4);
        bodies(x, 0);
        due("34 in cell 4", x.septembers(0, 2), 0);
        due("34 in cell 4", x.septembers(0, 3), 1);
        x = things(0, 1, 6);
        bodies(x, 0, 0);
        due("34 in cell 6", x.septembers(0, 4), 0);
        due("34 in cell 6", x.septembers(0, 5), 2);
        storms(x, 6, 9);
        due("34 not the storm told", x.septembers(0, 1), 0);
        int[][] wrong = {{-1, 0}, {1000000, 0}, {0, -1}, {0, 61}};
        for (int[] one : wrong) {
            due("34 BAD", x.septembers(one[0], one[1]), SteepleStruck.BAD);
        }
        due("34 counted", x.status(0), 4);
        due("34 far on", x.septembers(999999, 60), 2);
        // one summer with X next to where the cell, the strength changes: cut, not rounded
        x = things(5, 30, 0);
        bodies(x, 0);
        due("34 1986001148 is of 3", x.septembers(13807, 1), 0);
        due("34 989856111 is of 4", x.septembers(7246, 1), 1);
        x = things(0, 1, 6);
        bodies(x, 0);
        due("34 1369589711 is in 6", x.septembers(46, 1), 1);
        due("34 1695198674 is in 6", x.septembers(93, 1), 1);
        x = things(5, 30, 0);
        for (int i = 0; i < 17; i++) {
            x.summers(60);
        }
        bodies(x, 0, 2);
        // 4 behind three: the foot; behind four 2, behind five 10 and summer 1003: the hand for 3
        due("34 beyond 999", x.septembers(0, 5), 2);
    }

    private static void promise35() {
        SteepleStruck x = things(0, 5, 5);
        due("35 at first", x.part(0), 0);
        due("35 at first", x.part(1), 1);
        x.falls(5, 8);
        due("35 above", x.part(0), 1);
        due("35 below", x.part(1), 5);
        due("35 BAD", x.part(-1), SteepleStruck.BAD);
        due("35 BAD", x.part(2), SteepleStruck.BAD);
        due("35 counted", x.status(0), 2);
    }

    private static void promise36And37() {
        SteepleStruck x = things(5, 30, 0);
        due("36 BAD", x.image(-1), SteepleStruck.BAD);
        due("36 BAD", x.image(2), SteepleStruck.BAD);
        due("37 BAD", x.from(-1), SteepleStruck.BAD);
        due("37 BAD", x.from(2), SteepleStruck.BAD);
        due("37 NO", x.from(0), SteepleStruck.NO);
        due("36, 37 counted", x.status(0) * 10 + x.status(1), 41);
        storms(x, 0, 9);
        bodies(x, 0, 0, 0);
        x.seen(1, 0);
        x.note(0, 1, 2, 3, 4);
        x.mark(0, 1, 2, 3);
        x.summers(1);
        x.takes(0);
        long before = x.digest();
        due("36 kept", x.image(0), 1);
        due("37 the other is not", x.from(1), SteepleStruck.NO);
        x.storm(0, 3, 3);
        x.thing(0, 1, 1);
        x.body(5);
        x.forget(0);
        x.forget(1);
        x.forget(2);
        x.summers(5);
        type(x, "ab");
        x.falls(0, 5);
        x.image(1);
        long second = x.digest();
        due("37 on from it", x.from(0), 1);
        due("37 the text stays", x.count(10), 2);
        due("37 what may be undone is kept", x.count(9), 2);
        x.clear();
        due("37 as then", x.digest(), before);
        due("37 undone", x.undo(), 1);
        due("37 up", x.of(0, 3), 1);
        due("37 undone", x.undo(), 0);
        x.summers(60);
        x.village();
        due("37 once more", x.from(0), 1);
        due("37 as then", x.digest(), before);
        x.undo();
        x.undo();
        x.summers(3);
        due("37 and the other", x.from(1), 1);
        type(x, "ab");
        due("37 as then", x.digest(), second);
        x.clear();
        due("36 another in its place", x.image(0), 1);
        x.village();
        x.from(0);
        type(x, "ab");
        due("36 the new one", x.digest(), second);
        x = things(5, 30, 0);
        x.image(1);
        due("36 the other is not kept", x.from(0), SteepleStruck.NO);
        x.falls(0, 5);
        x.from(1);
        due("37 the fraction stays", x.part(1), 2);
    }

    private static void promise38() {
        SteepleStruck x = new SteepleStruck();
        x.struck(12);
        x.order(100, 0);
        x.sweep(0, 0);
        x.undo();
        x.from(0);
        for (int i = 0; i < 5; i++) {
            x.seen(0, SteepleStruck.NONE);
        }
        x.seen(0, SteepleStruck.NONE);
        due("38 BAD", x.status(0), 3);
        due("38 NO", x.status(1), 2);
        due("38 FULL", x.status(2), 1);
        due("38 another", x.status(3), -1);
        due("38 another", x.status(-1), -1);
        due("38 they count", x.status(0), 5);
        x.order(0, 0);
        x.when(0);
        x.lead(0);
        x.read();
        due("38 -5, NONE, a fault are none of them", x.status(0) * 100 + x.status(1) * 10 + x.status(2), 621);
    }

    private static void promise39() {
        SteepleStruck x = things(5, 30, 0, 0, 1, 1, 0, 1, 1);
        storms(x, 0, 9);
        bodies(x, 0, 4);
        x.summers(1);
        x.takes(1);
        x.takes(2);
        x.seen(0, 0);
        x.seen(0, 0);
        x.note(0, 1, 1, 1, 1);
        x.note(0, 1, 1, 1, 1);
        x.note(0, 1, 1, 1, 1);
        x.mark(0, 1, 1, 1);
        type(x, "seven..");
        int[] want = {3, 1, 2, 1, 1, 5, 2, 3, 1, 3, 7};
        for (int what = 0; what <= 10; what++) {
            due("39 count(" + what + ")", x.count(what), want[what]);
        }
        due("39 BAD", x.count(-1), SteepleStruck.BAD);
        due("39 BAD", x.count(11), SteepleStruck.BAD);
        due("39 counted", x.status(0), 2);
    }

    private static void promise40() {
        SteepleStruck x = new SteepleStruck();
        due("40 at first", x.digest(), fold(0, 0, 0, 0, 0, 0, 0, 0, 0, 0, 0, 0, 0, 0, 0, 0, 0, 0, 0, 0, 0, 0, 0, 0, 1));
        x = things(5, 30, 2, 3, 4, 7);
        storms(x, 2, 9, 1, 2, 3, 4, 5, 6, 7, 8, 9, 1);
        bodies(x, 0, 4);
        x.summers(1);
        x.takes(1);
        x.seen(3, SteepleStruck.NONE);
        x.seen(4, 1);
        x.note(1, 2, 3, 4, 5);
        x.mark(1, 2, 3, 4);
        x.type(9);
        x.falls(2, 7);
        x.struck(99);
        due("40 all", x.digest(), fold(2, 1, 2, 1, 1, 5, 2, 1, 1, 2, 1, 2, 9, 1, 2, 3, 4, 5, 6, 7, 8, 9, 1,
            5, 30, 2, 1, 3, 4, 7, 0, 0, 1, 4, 0, 3, -1, 4, 1, 1, 2, 3, 4, 5, 1, 2, 3, 4, 3, 10));
        due("40 it changes nothing", x.digest(), x.digest());
    }

    public static void main(String[] args) {
        promise1();
        promise2();
        promise3();
        promise4();
        promise5();
        promise6();
        promise7();
        promise8();
        promise9();
        promise9OtherThings();
        promise10();
        promise11();
        promise12();
        promise13();
        promise14();
        promise15();
        promise16();
        promise17();
        promise18();
        promise19();
        promise20();
        promise21();
        promise22();
        promise23();
        promise24();
        promise25();
        promise26();
        promise27();
        promise28();
        promise29();
        promise30();
        promise31();
        promise32();
        promise33();
        promise34();
        promise35();
        promise36And37();
        promise38();
        promise39();
        promise40();
        Check.end("PromiseTests");
    }
}
