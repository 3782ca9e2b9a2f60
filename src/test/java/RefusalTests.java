import java.lang.reflect.Method;

/** Every refusal that the document tells: its number, that it is counted as told, and that nothing else is changed. */
public final class RefusalTests {
    private static final int LOW = Integer.MIN_VALUE;
    private static final int HIGH = Integer.MAX_VALUE;

    private RefusalTests() {
    }

    private static int call(SteepleStruck x, String name, int... args) throws ReflectiveOperationException {
        Class<?>[] types = new Class<?>[args.length];
        Object[] values = new Object[args.length];
        for (int i = 0; i < args.length; i++) {
            types[i] = int.class;
            values[i] = args[i];
        }
        Method method = SteepleStruck.class.getMethod(name, types);
        return ((Number) method.invoke(x, values)).intValue();
    }

    private static void refused(boolean full, int answer, int which, String name, int... args) throws ReflectiveOperationException {
        String what = name + java.util.Arrays.toString(args) + (full ? " of all" : " of some");
        SteepleStruck x = full ? Made.full() : Made.some();
        SteepleStruck untouched = full ? Made.full() : Made.some();
        int[] before = {x.status(0), x.status(1), x.status(2)};
        Check.due(what, call(x, name, args), answer);
        for (int i = 0; i < 3; i++) {
            Check.due(what + " status " + i, x.status(i), before[i] + (i == which ? 1 : 0));
        }
        Check.holds(what + " changes nothing else", Whole.told(x).equals(Whole.told(untouched)));
    }

    private static void bad(String name, int... args) throws ReflectiveOperationException {
        refused(false, SteepleStruck.BAD, 0, name, args);
        refused(true, SteepleStruck.BAD, 0, name, args);
    }

    /** With each of these in the place told, the others as they may be. */
    private static void badAt(String name, int place, int[] good, int... wrong) throws ReflectiveOperationException {
        for (int one : wrong) {
            int[] args = good.clone();
            args[place] = one;
            bad(name, args);
        }
    }

    private static int[] of(int... numbers) {
        return numbers;
    }

    private static void badVillage() throws ReflectiveOperationException {
        int[] storm = of(0, 0, 0);
        badAt("storm", 0, storm, -1, 6, LOW, HIGH);
        badAt("storm", 1, storm, -1, 12, LOW, HIGH);
        badAt("storm", 2, storm, -1, 10, LOW, HIGH);
        int[] thing = of(0, 1, 0);
        badAt("thing", 0, thing, -1, 6, LOW, HIGH);
        badAt("thing", 1, thing, 0, 31, LOW, HIGH);
        badAt("thing", 2, thing, -1, 12, LOW, HIGH);
        badAt("body", 0, of(0), -1, 6, LOW, HIGH);
        badAt("type", 0, of(0), -1, 128, LOW, HIGH);
        badAt("summers", 0, of(1), 0, 61, LOW, HIGH);
        badAt("takes", 0, of(0), -1, 6, LOW, HIGH);
        badAt("of", 0, of(0, 0), -1, 6, LOW, HIGH);
        badAt("of", 1, of(0, 0), -1, 4, LOW, HIGH);
        badAt("about", 0, of(0, 0), -1, 6, LOW, HIGH);
        badAt("about", 1, of(0, 0), -1, 3, LOW, HIGH);
        badAt("weather", 0, of(0, 0), -1, 6, LOW, HIGH);
        badAt("weather", 1, of(0, 0), -1, 2, LOW, HIGH);
    }

    private static void badLooks() throws ReflectiveOperationException {
        badAt("draws", 0, of(0, 0), -1, 6, LOW, HIGH);
        badAt("draws", 1, of(0, 0), -1, 12, LOW, HIGH);
        badAt("struck", 0, of(0), -1, 12, LOW, HIGH);
        badAt("then", 0, of(0), -1, 61, LOW, HIGH);
        badAt("when", 0, of(0), -1, 6, LOW, HIGH);
        badAt("lead", 0, of(0), -1, 12, LOW, HIGH);
        badAt("seen", 0, of(0, 0), -1, 12, LOW, HIGH);
        badAt("seen", 1, of(0, 0), -2, 6, LOW, HIGH);
        badAt("tall", 0, of(0, 0), -1, 6, LOW, HIGH);
        badAt("tall", 1, of(0, 0), -1, 3, LOW, HIGH);
        int[] note = of(0, 1, 0, 0, 0);
        badAt("note", 0, note, -1, 6, LOW, HIGH);
        badAt("note", 1, note, 0, 31, LOW, HIGH);
        badAt("note", 2, note, -1, 12, LOW, HIGH);
        badAt("note", 3, note, -1, 100, LOW, HIGH);
        badAt("note", 4, note, -1, 100, LOW, HIGH);
        int[] mark = of(0, 0, 0, 0);
        badAt("mark", 0, mark, -1, 6, LOW, HIGH);
        badAt("mark", 1, mark, -1, 6, LOW, HIGH);
        badAt("mark", 2, mark, -1, 100, LOW, HIGH);
        badAt("mark", 3, mark, -1, 100, LOW, HIGH);
        badAt("forget", 0, of(0), -1, 3, LOW, HIGH);
        badAt("is", 0, of(0), -1, 6, LOW, HIGH);
        badAt("look", 0, of(0), -1, 6, LOW, HIGH);
        badAt("kinds", 0, of(0), -1, 6, LOW, HIGH);
        badAt("ask", 0, of(0), -1, 6, LOW, HIGH);
        badAt("falls", 0, of(0, 0), -1, 12, LOW, HIGH);
        badAt("falls", 1, of(0, 0), -1, 11, LOW, HIGH);
        badAt("septembers", 0, of(0, 0), -1, 1000000, LOW, HIGH);
        badAt("septembers", 1, of(0, 0), -1, 61, LOW, HIGH);
        badAt("part", 0, of(0), -1, 2, LOW, HIGH);
        badAt("image", 0, of(0), -1, 2, LOW, HIGH);
        badAt("from", 0, of(0), -1, 2, LOW, HIGH);
        badAt("count", 0, of(0), -1, 11, LOW, HIGH);
    }

    /** Things and parts that are not there yet, though there may be some. */
    private static void notThereYet() throws ReflectiveOperationException {
        String[][] calls = {{"takes"}, {"is"}, {"look"}, {"when"}, {"kinds"}, {"ask"}};
        for (String[] one : calls) {
            refused(false, SteepleStruck.BAD, 0, one[0], 2);
        }
        refused(false, SteepleStruck.BAD, 0, "of", 2, 0);
        refused(false, SteepleStruck.BAD, 0, "about", 2, 0);
        refused(false, SteepleStruck.BAD, 0, "draws", 2, 0);
        refused(false, SteepleStruck.BAD, 0, "tall", 2, 0);
        refused(false, SteepleStruck.BAD, 0, "seen", 0, 2);
        refused(false, SteepleStruck.BAD, 0, "note", 2, 1, 0, 0, 0);
        refused(false, SteepleStruck.BAD, 0, "mark", 2, 0, 0, 0);
        refused(false, -10, 0, "sweep", 2, 0);
    }

    private static void others() throws ReflectiveOperationException {
        for (boolean full : new boolean[] {false, true}) {
            refused(full, -10, 0, "order", -1, 0);
            refused(full, -10, 0, "order", 100, 0);
            refused(full, -10, 0, "order", 0, -2);
            refused(full, -10, 0, "order", HIGH, LOW);
            refused(full, -10, 0, "order", LOW, HIGH);
            refused(full, -10, 0, "sweep", -1, 0);
            refused(full, -10, 0, "sweep", 6, 0);
            refused(full, -10, 0, "sweep", 0, -2);
            refused(full, -10, 0, "sweep", HIGH, LOW);
            refused(full, -5, -1, "order", 99, 6);
            refused(full, -5, -1, "order", 0, HIGH);
            refused(full, -5, -1, "sweep", 0, 1);
            refused(full, -5, -1, "sweep", 0, HIGH);
            refused(full, -1, 0, "status", 3);
            refused(full, -1, 0, "status", -1);
            refused(full, -1, 0, "status", HIGH);
            refused(full, -1, 0, "status", LOW);
            refused(full, SteepleStruck.NO, 1, "from", 1);
        }
        refused(true, SteepleStruck.NO, 1, "undo");
        refused(true, SteepleStruck.NO, 1, "from", 0);
        refused(true, SteepleStruck.FULL, 2, "thing", 0, 1, 0);
        refused(true, SteepleStruck.FULL, 2, "body", 0);
        refused(true, SteepleStruck.FULL, 2, "type", 0);
        refused(true, SteepleStruck.FULL, 2, "seen", 0, 0);
        refused(true, SteepleStruck.FULL, 2, "seen", 0, SteepleStruck.NONE);
        refused(true, SteepleStruck.FULL, 2, "note", 0, 1, 0, 0, 0);
        refused(true, SteepleStruck.FULL, 2, "mark", 0, 0, 0, 0);
    }

    public static void main(String[] args) throws ReflectiveOperationException {
        badVillage();
        badLooks();
        notThereYet();
        others();
        Check.end("RefusalTests");
    }
}
