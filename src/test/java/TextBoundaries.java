/** The boundaries of THE TEXT, as they stand under Terms: on both sides of each, and the place of each FAULT. */
final class TextBoundaries {
    private TextBoundaries() {
    }

    static void all() {
        length();
        village();
        storm();
        thing();
        part();
        take();
        summers();
        tokens();
        blanks();
        faults();
        ends();
        whatItTakesThePlaceOf();
    }

    private static void due(String what, long got, long want) {
        Check.due(what, got, want);
    }

    private static String shown(String text) {
        return "\"" + text.replace("\n", "\\n").replace("\0", "\\0") + "\"";
    }

    private static void good(String text, int items) {
        due(shown(text), Made.typed(text).read(), items);
    }

    /** The fault is at that place, counts in no STATUS, and all stays. */
    private static void fault(String text, int place) {
        Whole.refused(shown(text), () -> textOf(Made.some(), text), SteepleStruck::read, -10 - place, -1);
    }

    private static SteepleStruck textOf(SteepleStruck x, String text) {
        x.clear();
        return Made.typed(x, text);
    }

    private static void length() {
        Sentences.at("THE VILLAGE is told by a TEXT (150 bytes at most) of ITEMS, each ended by ;");
        SteepleStruck x = Made.typed("village;" + Made.repeat(" ", 141));
        due("149 bytes", x.count(10), 149);
        due("the 150th", x.type(' '), 150);
        due("a 151st", x.type(' '), SteepleStruck.FULL);
        due("150 bytes", x.count(10), 150);
        due("all of it is read", x.read(), 1);
        x.clear();
        Made.typed(x, "village;" + Made.repeat(" ", 141) + "x");
        due("its last byte, too", x.read(), -10 - 149);
        x.clear();
        Made.typed(x, "village;" + Made.repeat(" ", 136) + "part0;");
        due("an item that ends with it", x.read(), 2);
        Whole.refused("a 151st byte", Made::full, y -> y.type('x'), SteepleStruck.FULL, 2);
        good("village;part 0;", 2);
        fault("village;part 0", 14);
        fault("village part 0;", 8);
        fault("village;part 0 part 0;", 15);
        fault("village;;", 8);
    }

    private static void village() {
        Sentences.at("village (once, first of all)");
        good("village;", 1);
        fault("", 0);
        fault("village;village;", 8);
        fault("village;part 0;village;", 15);
        fault("part 0;village;", 0);
        fault("part 0;", 0);
        fault("village 0;", 8);
    }

    private static void storm() {
        Sentences.at("storm y CELL STRENGTH (y 0 .. 5)");
        good("village;storm 0 0 0;", 2);
        good("village;storm 5 11 9;", 2);
        fault("village;storm 6 0 0;", 14);
        fault("village;storm 0 12 0;", 16);
        fault("village;storm 0 0 10;", 18);
        fault("village;storm 0 0;", 17);
        fault("village;storm 0 0 0 0;", 20);
        fault("village;storm;", 13);
        SteepleStruck x = Made.typed("village;storm 5 11 9;storm 0 0 1;");
        due("two of them", x.read(), 3);
        due("storm 5", x.weather(5, 0) * 10 + x.weather(5, 1), 119);
        due("storm 0", x.weather(0, 0) * 10 + x.weather(0, 1), 1);
        // any number of times
        good("village;" + Made.repeat("storm5 0 0;", 12), 13);
    }

    private static void thing() {
        Sentences.at("thing KIND HEIGHT CELL");
        good("village;thing 0 1 0;", 2);
        good("village;thing 5 30 11;", 2);
        fault("village;thing 6 1 0;", 14);
        fault("village;thing 0 0 0;", 16);
        fault("village;thing 0 31 0;", 16);
        fault("village;thing 0 1 12;", 18);
        fault("village;thing 0 1;", 17);
        fault("village;thing 0 1 0 0;", 20);
        SteepleStruck x = Made.typed("village;thing 5 30 11;");
        x.read();
        due("it is up", x.of(0, 0) * 100000 + x.of(0, 1) * 1000 + x.of(0, 2) * 10 + x.of(0, 3), 530111);
    }

    private static void part() {
        Sentences.at("part KIND");
        good("village;part 0;", 2);
        good("village;part 5;", 2);
        fault("village;part 6;", 13);
        fault("village;part;", 12);
        fault("village;part 0 0;", 15);
        SteepleStruck x = Made.typed("village;part 5;");
        x.read();
        due("it is not there", x.about(0, 0) * 10 + x.about(0, 1), 50);
    }

    private static void take() {
        Sentences.at("take k (down, or up again)");
        SteepleStruck x = Made.typed("village;thing0 1 0;take0;");
        due("down", x.read(), 3);
        due("down", x.count(1), 0);
        Made.typed(x, "take0;");
        due("up again", x.read(), 4);
        due("up again", x.count(1), 1);
        x = Made.typed("village;" + Made.repeat("thing0 1 0;", 6) + "take5;take1;take1;take4;take4;take5;take3;");
        due("six, some of them taken", x.read(), 14);
        due("only thing 3 is down", x.count(1) * 10 + x.of(3, 3), 50);
        due("no summer goes by", x.count(4), 0);
        fault("village;take 0;", 13);
        fault("village;thing0 1 0;take 1;", 24);
        fault("village;thing0 1 0;take;", 23);
        good("village;" + Made.repeat("thing0 1 0;", 6) + "take 5;", 8);
        fault("village;" + Made.repeat("thing0 1 0;", 6) + "take 6;", 79);
        fault("village;" + Made.repeat("thing0 1 0;", 5) + "take 5;thing0 1 0;", 68);
    }

    private static void summers() {
        Sentences.at("summers n (1 .. 99: so many go by, where it stands)");
        good("village;summers 1;", 2);
        good("village;summers 99;", 2);
        fault("village;summers 0;", 16);
        fault("village;summers 00;", 16);
        fault("village;summers 100;", 16);
        fault("village;summers;", 15);
        SteepleStruck x = Made.typed("village;summers 99;");
        x.read();
        due("99 go by", x.count(4), 99);
        // 10 x 99, then 9 more: 999; nothing goes by then
        x.clear();
        Made.typed(x, "village;" + Made.repeat("summers99;", 10) + "summers 8;");
        x.read();
        due("998", x.count(4), 998);
        x.clear();
        Made.typed(x, "village;" + Made.repeat("summers99;", 10) + "summers 9;");
        x.read();
        due("999", x.count(4), 999);
        x.clear();
        Made.typed(x, "village;" + Made.repeat("summers99;", 10) + "summers 10;summers 1;");
        due("items all the same", x.read(), 13);
        due("still 999", x.count(4), 999);
        // ahead of the thing, of the storm nothing is struck; behind it is
        x = Made.typed("village;storm0 0 9;summers1;thing5 9 0;part0;");
        x.read();
        due("ahead of it", x.count(5), 0);
        x = Made.typed("village;storm0 0 9;thing5 9 0;part0;summers1;");
        x.read();
        due("behind it", x.count(5) * 10 + x.count(3), 51);
    }

    private static void tokens() {
        Sentences.at("words of letters a .. z (a KIND is told as its number)");
        fault("village;part foot;", 13);
        fault("village;thing tree 1 0;", 14);
        fault("village;`;", 8);
        fault("village;{;", 8);
        fault("village;part`0;", 12);
        fault("village;part{0;", 12);
        fault("Village;", 0);
        fault("village;Part 0;", 8);
        fault("village;parT 0;", 8);
        fault("village;a;", 8);
        fault("village;z;", 8);
        fault("village;partz 0;", 8);
        fault("village;apart 0;", 8);

        Sentences.at("figures (1 or 2 are one number)");
        good("village;part 5;", 2);
        good("village;part 05;", 2);
        fault("village;part 005;", 13);
        good("village;thing 00 30 00;", 2);
        good("village;thing 0 09 09;", 2);
        fault("village;thing 0 009 9;", 16);
        fault("village;part /;", 13);
        fault("village;part :;", 13);
        fault("village;part 0/;", 14);
        fault("village;part 0:;", 14);
    }

    private static void blanks() {
        Sentences.at("blanks (32), any number, ahead of, between and behind TOKENS (needed only between two words, two numbers)");
        good("village;thing0 1 0;part0;", 3);
        good(" village ; thing 0 1 0 ; part 0 ; ", 3);
        good(Made.repeat(" ", 142) + "village;", 1);
        good("village;" + Made.repeat(" ", 142), 1);
        good("village" + Made.repeat(" ", 142) + ";", 1);
        good("village;part" + Made.repeat(" ", 136) + "0;", 2);
        fault("villagepart0;", 0);
        fault("village;thing01 0;", 16);
        fault("village;thing0 10;", 17);
        fault("village;storm000;", 13);
        fault("vill age;", 0);
        fault("village;thing 0 3 0 11;", 20);
        for (int other : new int[] {0, 9, 10, 13, 31, 33, 127}) {
            fault("village;part" + (char) other + "0;", 12);
            fault("village;" + (char) other, 8);
            fault((char) other + "village;", 0);
        }
    }

    private static void faults() {
        Sentences.at("FAULT: the place of the first byte of the first TOKEN that can not stand there");
        fault("village;part 7;part 8;", 13);
        fault("village;   part    7;", 19);
        fault("village;part ;0", 13);
        fault("village;storm part 0;", 14);
        fault("0;", 0);
        fault(";", 0);
        fault("   ;", 3);

        Sentences.at("a word that is none");
        fault("hamlet;", 0);
        fault("villag;", 0);
        fault("villages;", 0);
        for (String word : new String[] {"village", "storm", "thing", "part", "take", "summers"}) {
            String rest = word.equals("village") ? ";" : word.equals("storm") || word.equals("thing") ? " 0 1 0;" : " 1;";
            String ahead = word.equals("village") ? "" : word.equals("take") ? "village;thing0 1 0;thing0 1 0;" : "village;";
            good(ahead + word + rest, ahead.isEmpty() ? 1 : word.equals("take") ? 4 : 2);
            for (int i = 0; i < word.length(); i++) {
                fault(ahead + word.substring(0, i) + "q" + word.substring(i + 1) + rest, ahead.length());
                fault(ahead + word.substring(0, i) + word.substring(i + 1) + rest, ahead.length());
            }
        }
        fault("village;summer 1;", 8);
        fault("village;summerss 1;", 8);
        fault("village;storms 0 0 0;", 8);
        fault("village;things 0 1 0;", 8);
        fault("village;takes 0;", 8);
        fault("village;tak", 8);

        Sentences.at("village again, anything ahead of it");
        fault("village; village;", 9);
        fault("village;summers 1; village;", 19);
        fault("summers 1;village;", 0);
        fault(" 5 village;", 1);
        fault(";village;", 0);

        Sentences.at("a 7th thing, a 7th part at its word");
        good("village;" + Made.repeat("thing0 1 0;", 6), 7);
        fault("village;" + Made.repeat("thing0 1 0;", 6) + " thing 0 1 0;", 75);
        fault("village;" + Made.repeat("thing0 1 0;", 6) + "thing", 74);
        good("village;" + Made.repeat("part0;", 6), 7);
        fault("village;" + Made.repeat("part0;", 6) + " part 0;", 45);
        fault("village;" + Made.repeat("part0;", 6) + "part", 44);
        // the one does not hinder the other
        good("village;" + Made.repeat("thing0 1 0;", 6) + Made.repeat("part0;", 6), 13);

        Sentences.at("a run of three figures or more (at its first one)");
        fault("village;summers 099;", 16);
        fault("village;summers  123456789;", 17);
        fault("village;storm 0 000 0;", 16);
        fault("village;summers" + Made.repeat("9", 134) + ";", 15);
        fault("village;part 0 000;", 15);

        Sentences.at("a number not as told, also a THING that is not there yet");
        fault("village;part 06;", 13);
        fault("village;part 99;", 13);
        fault("village;summers 00;", 16);
        fault("village;thing 0 00 0;", 16);
        fault("village;take 0;thing 0 1 0;", 13);
        good("village;thing 0 1 0;take 0;", 3);
        fault("village;thing 0 1 0;take 01;", 25);

        Sentences.at("a byte that begins none, too)");
        for (int one : new int[] {0, 31, '!', '/', ':', '<', '@', 'A', 'Z', '[', '`', '{', '~', 127}) {
            fault("village;" + (char) one + ";", 8);
            fault("village;part 0" + (char) one + ";", 14);
            fault("village;part " + (char) one + ";", 13);
        }
        fault("village;part -1;", 13);
        fault("village;part +1;", 13);
    }

    private static void ends() {
        Sentences.at("the TEXT's length, if it ends too early (an empty one, too).");
        fault("", 0);
        fault(" ", 1);
        fault(Made.repeat(" ", 150), 150);
        fault("village", 7);
        fault("village  ", 9);
        good("village  ;", 1);
        fault("village;part", 12);
        fault("village;part ", 13);
        fault("village;part 0", 14);
        fault("village;part 0  ", 16);
        good("village;part 0  ;", 2);
        fault("village;storm", 13);
        fault("village;storm 0", 15);
        fault("village;storm 0 0", 17);
        fault("village;storm 0 0 0", 19);
        good("village;storm 0 0 0;", 2);
        fault("village;" + Made.repeat(" ", 137) + "part0", 150);
    }

    private static void whatItTakesThePlaceOf() {
        Sentences.at("A VILLAGE that is read takes the place of all but IMAGES, THE TEXT, THE FRACTION, STATUS"
            + " (SEEN ones, NOTES, MARKS none; nothing to undo).");
        SteepleStruck x = Made.brim();
        x.falls(0, 3);
        long above = x.part(0);
        long below = x.part(1);
        x.undo();
        int bad = x.status(0);
        int full = x.status(2);
        due("to undo ahead of it", x.count(9), 7);
        due("the text told", x.read(), 1);
        int[] want = {0, 0, 0, 0, 0, 0, 0, 0, 0, 0, 150};
        for (int what = 0; what <= 10; what++) {
            due("count(" + what + ")", x.count(what), want[what]);
        }
        due("above", x.part(0), above);
        due("below", x.part(1), below);
        due("BAD", x.status(0), bad);
        due("FULL", x.status(2), full);
        due("nothing to undo", x.undo(), SteepleStruck.NO);
        due("image 0 stays", x.from(0), 1);
        due("with what may be undone", x.count(0) * 10 + x.count(9), 68);
        due("image 1 stays", x.from(1), 1);
        due("with nothing to undo", x.count(0) * 10 + x.count(9), 60);
        // takes and summers told in it may not be undone, and storms of old are gone
        x = textOf(Made.some(), "village;thing 0 1 0;take 0;summers 3;");
        due("read", x.read(), 4);
        due("nothing to undo", x.count(9), 0);
        due("no part of old", x.count(2), 0);
        due("no storm of old", x.weather(0, 1) + x.weather(1, 0) + x.weather(1, 1), 0);
        due("its own summers", x.count(4), 3);
        // read again it is the same, not more
        due("read again", x.read(), 4);
        due("one thing", x.count(0) * 10 + x.count(4), 13);
    }
}
