/** Villages that several tests begin with. */
final class Made {
    private Made() {
    }

    /** Things as kind, height, cell, one behind the other. */
    static SteepleStruck things(int... told) {
        SteepleStruck x = new SteepleStruck();
        for (int i = 0; i + 2 < told.length; i += 3) {
            Check.due("thing", x.thing(told[i], told[i + 1], told[i + 2]), i / 3);
        }
        return x;
    }

    static SteepleStruck bodies(SteepleStruck x, int... kinds) {
        int first = x.count(2);
        for (int i = 0; i < kinds.length; i++) {
            Check.due("body", x.body(kinds[i]), first + i);
        }
        return x;
    }

    /** HE is struck from everywhere (35 or more, 24 from the farthest cell). */
    static SteepleStruck him() {
        return things(5, 30, 0);
    }

    /** The storms of all six summers in cell 0, with one strength. */
    static SteepleStruck stormy(SteepleStruck x, int strength) {
        for (int y = 0; y < 6; y++) {
            x.storm(y, 0, strength);
        }
        return x;
    }

    /** So many summers more go by, at once as long as that may be. */
    static SteepleStruck later(SteepleStruck x, int summers) {
        for (int left = summers; left > 0; left -= 60) {
            x.summers(Math.min(left, 60));
        }
        return x;
    }

    static SteepleStruck typed(SteepleStruck x, String text) {
        for (int i = 0; i < text.length(); i++) {
            x.type(text.charAt(i));
        }
        return x;
    }

    static SteepleStruck typed(String text) {
        return typed(new SteepleStruck(), text);
    }

    static String repeat(String part, int times) {
        StringBuilder text = new StringBuilder();
        for (int i = 0; i < times; i++) {
            text.append(part);
        }
        return text.toString();
    }

    /** Two things, two parts, something of everything, image 0, and things to undo. */
    static SteepleStruck some() {
        SteepleStruck x = new SteepleStruck();
        x.thing(5, 30, 0);
        x.thing(4, 9, 11);
        x.body(0);
        x.body(5);
        x.storm(0, 0, 5);
        x.storm(1, 1, 3);
        x.seen(0, 0);
        x.note(0, 1, 2, 3, 4);
        x.mark(0, 1, 2, 3);
        x.image(0);
        x.summers(2);
        x.takes(1);
        typed(x, "village;thing 0 1 0;");
        x.falls(0, 5);
        return x;
    }

    /** All that there may be of everything; nothing to undo, no image. */
    static SteepleStruck full() {
        SteepleStruck x = new SteepleStruck();
        for (int i = 0; i < 6; i++) {
            x.thing(i, 9, i);
            x.body(i);
        }
        for (int i = 0; i < 5; i++) {
            x.seen(i, i);
        }
        for (int i = 0; i < 6; i++) {
            x.note(i, 1, 2, 3, 4);
            x.mark(i, 1, 2, 3);
        }
        return typed(x, "village;" + repeat(" ", 142));
    }

    /** As full, eight things to undo, both images. */
    static SteepleStruck brim() {
        SteepleStruck x = full();
        x.image(1);
        for (int i = 0; i < 8; i++) {
            x.takes(i % 6);
        }
        x.image(0);
        return x;
    }
}
