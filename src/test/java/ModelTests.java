import java.lang.reflect.Method;

/** Runs of calls by fixed seeds, each answer held against the Model; none may throw. */
public final class ModelTests {
    private static final int RUNS = 3000;
    private static final int CALLS = 512;
    private static final int[] WILD = {Integer.MIN_VALUE, Integer.MIN_VALUE + 1, -1000, -11, -10, -3, -2, -1, 0, 1, 5, 6, 7,
        9, 10, 11, 12, 13, 30, 31, 60, 61, 99, 100, 127, 128, 999, 1000, 999999, 1000000, 1 << 16, 1 << 30,
        Integer.MAX_VALUE - 1, Integer.MAX_VALUE};

    /** Numbers by a seed, the same ones always. */
    private static final class Dice {
        private long x;

        Dice(long seed) {
            x = seed * 0x9E3779B97F4A7C15L + 0x1234567L;
        }

        int below(int n) {
            x = x * 6364136223846793005L + 1442695040888963407L;
            return (int) ((x >>> 33) % n);
        }

        int within(int least, int most) {
            return least + below(most - least + 1);
        }

        boolean one(int of) {
            return below(of) == 0;
        }
    }

    private static final class Run {
        final int number;
        final Dice dice;
        final Both both;
        final Model model;

        Run(int number) {
            this.number = number;
            this.dice = new Dice(number);
            this.both = new Both("run " + number);
            this.model = both.model;
        }

        boolean call(String name, int... args) throws ReflectiveOperationException {
            return both.calls() >= CALLS || both.call(name, args);
        }

        int thing() {
            return dice.within(model.things() == 0 || dice.one(20) ? -1 : 0, Math.max(0, model.things() - (dice.one(20) ? 0 : 1)));
        }

        int part() {
            return dice.within(model.parts() == 0 || dice.one(20) ? -1 : 0, Math.max(0, model.parts() - (dice.one(20) ? 0 : 1)));
        }

        int number(int least, int most) {
            return dice.one(25) ? dice.within(least - 1, most + 1) : dice.one(8) ? (dice.one(2) ? least : most) : dice.within(least, most);
        }

        boolean go() throws ReflectiveOperationException {
            boolean same = !dice.one(3) || build();
            while (same && both.calls() < CALLS) {
                same = dice.one(12) ? wild() : step();
                if (same && dice.one(6)) {
                    same = call("digest");
                }
            }
            return same;
        }

        /** A village that has something of everything. */
        boolean build() throws ReflectiveOperationException {
            boolean same = true;
            for (int y = 0; same && y < 6; y++) {
                same = call("storm", y, number(0, 11), number(0, 9));
            }
            int things = dice.within(1, 6);
            int parts = dice.within(1, 6);
            for (int k = 0; same && k < things; k++) {
                same = call("thing", number(0, 5), dice.one(2) ? number(1, 30) : number(1, 8), number(0, 11));
            }
            for (int p = 0; same && p < parts; p++) {
                same = call("body", number(0, 5));
            }
            return same;
        }

        boolean step() throws ReflectiveOperationException {
            switch (dice.below(46)) {
                case 0: return dice.one(12) ? call("village") : call("whence");
                case 1: return call("storm", number(0, 5), number(0, 11), number(0, 9));
                case 2: case 3: return call("thing", number(0, 5), dice.one(2) ? number(1, 30) : number(1, 8), number(0, 11));
                case 4: case 5: return call("body", number(0, 5));
                case 6: return dice.one(9) ? tellText() : call("type", number(0, 127));
                case 7: return dice.one(3) ? call("clear") : call("read");
                case 8: case 9: return call("summers", dice.one(3) ? number(1, 60) : number(1, 3));
                case 10: case 11: return call("takes", thing());
                case 12: case 13: return call("undo");
                case 14: return call("of", thing(), number(0, 3));
                case 15: return call("about", part(), number(0, 2));
                case 16: return call("weather", number(0, 5), number(0, 1));
                case 17: return call("draws", thing(), number(0, 11));
                case 18: return call("struck", number(0, 11));
                case 19: return call("then", number(0, 60));
                case 20: return call("when", part());
                case 21: return call("whence");
                case 22: case 23: return call("lead", number(0, 11));
                case 24: return call("spare");
                case 25: case 26: return call("order", dice.one(2) ? number(0, 99) : number(0, 40), number(-1, 5));
                case 27: return call("seen", number(0, 11), dice.one(3) ? thing() : -1);
                case 28: return seenAsItIs();
                case 29: case 30: return call("tall", thing(), number(0, 2));
                case 31: return call("note", thing(), number(1, 30), number(0, 11), number(0, 99), number(0, 99));
                case 32: return noteAsAKindWould();
                case 33: return dice.one(3) ? call("mark", part(), number(0, 5), number(0, 99), number(0, 99)) : markAsAKindWould();
                case 34: return call("forget", number(0, 2));
                case 35: return call("is", thing());
                case 36: return call("look", thing());
                case 37: return call("kinds", part());
                case 38: return call("ask", part());
                case 39: return call("sweep", part(), number(-1, 1));
                case 40: return call("falls", number(0, 11), number(0, 10)) && call("part", number(0, 1)) && call("part", number(0, 1));
                case 41: return call("septembers", number(0, 999999), number(0, 60));
                case 42: return dice.one(2) ? call("image", number(0, 1)) : call("from", number(0, 1));
                case 43: return call("status", number(0, 2));
                case 44: return call("count", number(0, 10));
                default: return call("part", number(0, 1));
            }
        }

        boolean seenAsItIs() throws ReflectiveOperationException {
            int c = dice.below(12);
            return call("seen", c, model.struck(c));
        }

        boolean noteAsAKindWould() throws ReflectiveOperationException {
            int t = dice.within(1, 30);
            int f = dice.below(12);
            int y = dice.below(100);
            return call("note", thing(), t, f, y, Model.draw(dice.below(6), t, f, y));
        }

        boolean markAsAKindWould() throws ReflectiveOperationException {
            int n = dice.below(6);
            int y = dice.below(100);
            return call("mark", part(), n, y, Model.need(dice.below(6), n, y));
        }

        boolean wild() throws ReflectiveOperationException {
            Method[] methods = Model.class.getMethods();
            java.util.Arrays.sort(methods, (a, b) -> a.getName().compareTo(b.getName()));
            Method method = methods[dice.below(methods.length)];
            if (method.getDeclaringClass() != Model.class || method.getName().equals("village")) {
                return true;
            }
            int[] args = new int[method.getParameterCount()];
            for (int i = 0; i < args.length; i++) {
                args[i] = dice.one(2) ? WILD[dice.below(WILD.length)] : dice.below(3);
            }
            return call(method.getName(), args);
        }

        /** A text that tells a village, often with something wrong in it. */
        boolean tellText() throws ReflectiveOperationException {
            StringBuilder text = new StringBuilder();
            item(text, "village");
            int items = dice.within(0, 14);
            int things = 0;
            for (int i = 0; i < items && text.length() < 140; i++) {
                switch (dice.below(6)) {
                    case 0: item(text, "storm", dice.below(6), dice.below(12), dice.below(10)); break;
                    case 1: case 2: item(text, "thing", dice.below(6), dice.within(1, 30), dice.below(12)); things++; break;
                    case 3: item(text, "part", dice.below(6)); break;
                    case 4: if (things > 0) item(text, "take", dice.below(things)); break;
                    default: item(text, "summers", dice.within(1, 99)); break;
                }
            }
            if (dice.one(2)) {
                spoil(text);
            }
            boolean same = dice.one(10) || call("clear");
            for (int i = 0; same && i < text.length(); i++) {
                same = call("type", text.charAt(i));
            }
            return same && call("read") && call("digest");
        }

        private void item(StringBuilder text, String word, int... numbers) {
            blanks(text, 0);
            text.append(word);
            for (int i = 0; i < numbers.length; i++) {
                blanks(text, i == 0 ? 0 : 1);
                text.append(numbers[i] < 10 && dice.one(9) ? "0" : "").append(numbers[i]);
            }
            blanks(text, 0);
            text.append(';');
        }

        private void blanks(StringBuilder text, int least) {
            int n = least + (dice.one(6) ? dice.below(3) : 0);
            for (int i = 0; i < n; i++) {
                text.append(' ');
            }
        }

        private void spoil(StringBuilder text) {
            int place = dice.below(text.length());
            String signs = "; 0129avz-.{`/:\n\u0000\u007fA";
            switch (dice.below(4)) {
                case 0: text.setCharAt(place, signs.charAt(dice.below(signs.length()))); break;
                case 1: text.deleteCharAt(place); break;
                case 2: text.insert(place, signs.charAt(dice.below(signs.length()))); break;
                default: text.setLength(place); break;
            }
        }
    }

    private ModelTests() {
    }

    public static void main(String[] args) throws ReflectiveOperationException {
        int failed = 0;
        for (int number = 0; number < RUNS && failed < 5; number++) {
            Run run = new Run(number);
            boolean same = run.go();
            Check.holds("run " + number + " answers as the model does", same);
            failed += same ? 0 : 1;
        }
        Check.end("ModelTests");
    }
}
