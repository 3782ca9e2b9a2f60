/** Texts that tell a village, and where the fault is in those that do not. */
public final class ReadTests {
    private ReadTests() {
    }

    private static SteepleStruck typed(String text) {
        SteepleStruck x = new SteepleStruck();
        for (int i = 0; i < text.length(); i++) {
            x.type(text.charAt(i));
        }
        return x;
    }

    private static String shown(String text) {
        return "read of \"" + text.replace("\n", "\\n").replace("\0", "\\0") + "\"";
    }

    private static void items(String text, int items) {
        Check.due(shown(text), typed(text).read(), items);
    }

    /** The fault, and that nothing but nothing is changed by it. */
    private static void fault(String text, int place) {
        SteepleStruck x = typed(text);
        x.thing(5, 30, 5);
        x.body(0);
        x.body(1);
        x.storm(0, 5, 9);
        x.seen(1, 0);
        x.note(0, 1, 2, 3, 4);
        x.mark(0, 1, 2, 3);
        x.summers(2);
        x.falls(5, 5);
        long before = x.digest();
        Check.due(shown(text), x.read(), -10 - place);
        Check.due(shown(text) + ": all stays", x.digest(), before);
        Check.due(shown(text) + ": no refusal is counted", x.status(0) + x.status(1) + x.status(2), 0);
        Check.due(shown(text) + ": it may be undone", x.undo(), 0);
    }

    private static String repeat(String item, int times) {
        StringBuilder text = new StringBuilder("village;");
        for (int i = 0; i < times; i++) {
            text.append(item);
        }
        return text.toString();
    }

    private static void good() {
        items("village;", 1);
        items("  village  ;  ", 1);
        items("village;storm 0 0 0;", 2);
        items("village;storm0 0 0;", 2);
        items("village ; storm  5  11  9 ; ", 2);
        items("village;thing0 1 0;thing 5 30 11;part0;part5;take0;take1;summers1;summers99;", 9);
        items("village;storm 05 011;".replace("011", "01 01"), 2);
        items("village;thing 00 01 00;take 00;summers 09;", 4);
        items(repeat("thing0 1 0;", 6), 7);
        items(repeat("part0;", 6), 7);
    }

    private static void faults() {
        fault("", 0);
        fault(" ", 1);
        fault("   ", 3);
        fault("village", 7);
        fault("village ", 8);
        fault("villag", 0);
        fault("villages;", 0);
        fault("Village;", 0);
        fault(" villag;", 1);
        fault(";", 0);
        fault("storm 0 0 0;", 0);
        fault("7;", 0);
        fault(";village;", 0);
        fault("village;;", 8);
        fault("village;village;", 8);
        fault("village;storm 0 0 0; village;", 21);
        fault("village 1;", 8);
        fault("village storm 0 0 0;", 8);
        fault("village-;", 7);
        fault("vil lage;", 0);
        fault("village;storm", 13);
        fault("village;storm ", 14);
        fault("village;storm 0", 15);
        fault("village;storm 0 0 ", 18);
        fault("village;storm 0 0 0", 19);
        fault("village;storm 0 0 0 ", 20);
        fault("village;storm 0 0;", 17);
        fault("village;storm;", 13);
        fault("village;storm 0 0 0 0;", 20);
        fault("village;storm 6 0 0;", 14);
        fault("village;storm 0 12 0;", 16);
        fault("village;storm 0 0 10;", 18);
        fault("village;storm 00;", 16);
        fault("village;storm storm 0 0;", 14);
        fault("village;thing 6 1 0;", 14);
        fault("village;thing 0 0 0;", 16);
        fault("village;thing 0 31 0;", 16);
        fault("village;thing 0 30 12;", 19);
        fault("village;thing 0 1;", 17);
        fault("village;part 6;", 13);
        fault("village;part;", 12);
        fault("village;part 0 0;", 15);
        fault("village;take 0;", 13);
        fault("village;thing 0 1 0;take 1;", 25);
        fault("village;take 0;thing 0 1 0;", 13);
        fault("village;summers 0;", 16);
        fault("village;summers 00;", 16);
        fault("village;summers 100;", 16);
        fault("village;summers 001;", 16);
        fault("village;summers  012345;", 17);
        fault("village;summer 1;", 8);
        fault("village;body 1;", 8);
        fault("village;thing tree 1 0;", 14);
        fault("village;part 0;\n", 15);
        fault("village;part 0;\0", 15);
        fault("village;part\t0;", 12);
        fault("village;part 0:", 14);
        fault("village;part /;", 13);
        fault("village;`;", 8);
        fault("village;{;", 8);
        fault("village;part 0;\177", 15);
        fault("village;part -1;", 13);
        fault(repeat("thing0 1 0;", 6) + "thing", 74);
        fault(repeat("thing0 1 0;", 6) + "  thing9;", 76);
        fault(repeat("part0;", 6) + "part 0;", 44);
        fault(repeat("part0;", 6) + "thing 9;", 50);
    }

    private static void whatIsTold() {
        SteepleStruck x = typed("village;storm 0 1 2;storm 0 3 4;storm 5 11 9;thing 5 30 3;thing 4 2 11;part 3;part 5;take 1;");
        Check.due("items", x.read(), 9);
        Check.due("the last one told of a storm", x.weather(0, 0) * 10 + x.weather(0, 1), 34);
        Check.due("another storm", x.weather(5, 0) * 10 + x.weather(5, 1), 119);
        Check.due("HE", x.of(0, 0) * 10000 + x.of(0, 1) * 100 + x.of(0, 2), 53003);
        Check.due("a kite", x.of(1, 0) * 10000 + x.of(1, 1) * 100 + x.of(1, 2), 40211);
        Check.due("up, down", x.of(0, 3) * 10 + x.of(1, 3), 10);
        Check.due("parts", x.about(0, 0) * 10 + x.about(1, 0), 35);
        Check.due("nothing to undo", x.count(9), 0);

        // summers go by where they stand: ahead of the thing, the part, the taking down
        x = typed("village;storm 0 3 9;storm 1 3 9;summers 1;thing 5 30 3;part 0;summers 1;take 0;summers 7;take 0;");
        Check.due("items", x.read(), 10);
        Check.due("summers", x.count(4), 9);
        Check.due("there", x.count(3), 1);
        Check.due("charge", x.count(5), 5);
        Check.due("up again", x.of(0, 3), 1);

        x = typed(repeat("summers99;", 14));
        Check.due("items", x.read(), 15);
        Check.due("999 at most", x.count(4), 999);
        Check.due("nothing to undo", x.undo(), SteepleStruck.NO);

        // a text that is full
        StringBuilder full = new StringBuilder("village;");
        while (full.length() < 149) {
            full.append(' ');
        }
        Check.due("149 bytes", typed(full.toString()).read(), 1);
        Check.due("150 bytes", typed(full + " ").read(), 1);
        Check.due("150 bytes, a fault at the last", typed(full + "x").read(), -10 - 149);
        Check.due("150 bytes, too early an end", typed(full + "t").read(), -10 - 149);
        Check.due("a text without its end", typed(full.substring(0, 7) + full.substring(8) + "  ").read(), -10 - 150);
    }

    private static void readAgain() {
        SteepleStruck x = typed("village;thing 0 1 0;");
        Check.due("read", x.read(), 2);
        Check.due("read again", x.read(), 2);
        Check.due("one thing all the same", x.count(0), 1);
        for (int i = 0; i < 6; i++) {
            x.type("take 0".charAt(i));
        }
        Check.due("one byte is wanting", x.read(), -10 - 26);
        Check.due("still up", x.count(1), 1);
        x.type(';');
        Check.due("read on", x.read(), 3);
        Check.due("down", x.count(1), 0);
    }

    public static void main(String[] args) {
        good();
        faults();
        whatIsTold();
        readAgain();
        Check.end("ReadTests");
    }
}
