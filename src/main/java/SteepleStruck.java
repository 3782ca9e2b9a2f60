/**
 * A village whose steeple cock is struck, summer by summer, into somebody:
 * things that draw the lightning, storms, and the parts of him that come by it.
 *
 * <p>The words in capitals are those of the document (shared/DOC.md). Every call
 * answers for any arguments; none throws.
 */
public final class SteepleStruck {
    public static final int NONE = -1, BAD = -2, NO = -3, FULL = -4;

    private static final int NOT_SO_MANY = -5;
    private static final int BAD_TEN = -10;
    private static final int FAULT_FROM = -10;

    private static final int CELLS = 12;
    private static final int STORMS = 6;
    private static final int MOST_THINGS = 6;
    private static final int MOST_PARTS = 6;
    private static final int KINDS = 6;
    private static final int MOST_HEIGHT = 30;
    private static final int MOST_STRENGTH = 9;
    private static final int MOST_CHARGE = 999;
    private static final int LAST_SUMMER = 999;
    // far above any summer that a look ahead can come to
    private static final int NO_LAST_SUMMER = 1000000;
    private static final int FARTHEST_LOOK = 60;
    private static final int HIM = 0;

    private final Village here = new Village();
    private final Village draft = new Village();
    private final Village firstImage = new Village();
    private final Village secondImage = new Village();
    private final Moment trial = new Moment();
    private final Row ahead = new Row(CELLS);
    private final Text text = new Text();
    private final Fraction fraction = new Fraction();
    private final Orders orders = new Orders();
    private final Guesses guesses = new Guesses();
    private final Bets bets = new Bets();
    private boolean firstKept;
    private boolean secondKept;
    private int badCalls;
    private int noCalls;
    private int fullCalls;

    public SteepleStruck() {
    }

    // ---- a village

    public int village() {
        int things = here.things.size();
        here.begin();
        return things;
    }

    public int storm(int y, int c, int strength) {
        if (!isStorm(y) || !isCell(c) || !within(strength, 0, MOST_STRENGTH)) {
            return refuseBad();
        }
        int before = here.storms.at(y, Village.STRENGTH);
        here.tellStorm(y, c, strength);
        return before;
    }

    public int thing(int kind, int height, int c) {
        if (!isKind(kind) || !isHeight(height) || !isCell(c)) {
            return refuseBad();
        }
        if (here.things.isFull()) {
            return refuseFull();
        }
        return here.addThing(kind, height, c);
    }

    public int body(int kind) {
        if (!isKind(kind)) {
            return refuseBad();
        }
        if (here.parts.isFull()) {
            return refuseFull();
        }
        return here.addPart(kind);
    }

    public int type(int c) {
        if (!within(c, 0, 127)) {
            return refuseBad();
        }
        if (text.isFull()) {
            return refuseFull();
        }
        text.add(c);
        return text.length();
    }

    public int clear() {
        int bytes = text.length();
        text.empty();
        return bytes;
    }

    public int read() {
        draft.begin();
        int items = text.tellTo(draft);
        if (items >= 0) {
            here.takeFrom(draft);
        }
        return items;
    }

    // ---- summers

    public int summers(int n) {
        if (!within(n, 1, FARTHEST_LOOK)) {
            return refuseBad();
        }
        here.remember();
        here.passTold(here.now, n, LAST_SUMMER);
        return here.now.partsThere();
    }

    public int takes(int k) {
        if (!isThing(k)) {
            return refuseBad();
        }
        here.remember();
        here.turn(k);
        return here.now.isUp(k) ? 1 : 0;
    }

    public int undo() {
        if (here.earlier.size() == 0) {
            return refuseNo();
        }
        here.goBack();
        return here.now.summer;
    }

    public int of(int k, int what) {
        if (!isThing(k) || !within(what, 0, 3)) {
            return refuseBad();
        }
        if (what == 3) {
            return here.now.isUp(k) ? 1 : 0;
        }
        return here.things.at(k, what);
    }

    public int about(int p, int what) {
        if (!isPart(p) || !within(what, 0, 2)) {
            return refuseBad();
        }
        switch (what) {
            case 0:
                return here.parts.at(p, Village.KIND);
            case 1:
                return here.now.isThere(p) ? 1 : 0;
            default:
                return here.needOf(p, here.now.partsThere(), here.now.summer);
        }
    }

    public int weather(int y, int what) {
        if (!isStorm(y) || !within(what, 0, 1)) {
            return refuseBad();
        }
        return here.storms.at(y, what);
    }

    // ---- what is struck

    public int draws(int k, int c) {
        if (!isThing(k) || !isCell(c)) {
            return refuseBad();
        }
        return here.drawOf(k, c);
    }

    public int struck(int c) {
        if (!isCell(c)) {
            return refuseBad();
        }
        return here.struckNow(c);
    }

    public int then(int m) {
        if (!within(m, 0, FARTHEST_LOOK)) {
            return refuseBad();
        }
        trial.takeFrom(here.now);
        here.passTold(trial, m, NO_LAST_SUMMER);
        return trial.there;
    }

    public int when(int p) {
        if (!isPart(p)) {
            return refuseBad();
        }
        return summersUntil(p);
    }

    public int whence() {
        int cells = 0;
        for (int c = 0; c < CELLS; c++) {
            if (here.struckNow(c) == HIM) {
                cells |= 1 << c;
            }
        }
        return cells;
    }

    public int lead(int c) {
        if (!isCell(c)) {
            return refuseBad();
        }
        if (!here.mayBeHim(c)) {
            return NONE;
        }
        return here.stronger(c) & here.now.up;
    }

    public int spare() {
        for (int c = 0; c < CELLS; c++) {
            // where HE would not be struck at all, any set of things will do, as if HE were among them
            ahead.put(c, here.mayBeHim(c) ? here.stronger(c) : 1 << HIM);
        }
        int best = NONE;
        int sets = 1 << here.things.size();
        // by twos, for HE is in none; rising, so that of like ones the first is the least
        for (int set = 0; set < sets; set += 2) {
            boolean fewer = best == NONE || Integer.bitCount(set) < Integer.bitCount(best);
            if (fewer && isSparedBy(set)) {
                best = set;
            }
        }
        return best;
    }

    public int order(int c, int k) {
        if (!within(c, 0, 99) || k < NONE) {
            return refuseBadTen();
        }
        orders.search(here, c);
        if (k == NONE) {
            return orders.most();
        }
        return k < orders.length() ? orders.at(k) : NOT_SO_MANY;
    }

    // ---- how tall it was

    public int seen(int c, int k) {
        if (!isCell(c) || (k != NONE && !isThing(k))) {
            return refuseBad();
        }
        if (here.seen.isFull()) {
            return refuseFull();
        }
        here.seen.add(c, k, 0, 0, 0);
        return here.seen.size();
    }

    public int tall(int k, int what) {
        if (!isThing(k) || !within(what, 0, 2)) {
            return refuseBad();
        }
        int many = 0;
        int least = NONE;
        int greatest = NONE;
        for (int height = 1; height <= MOST_HEIGHT; height++) {
            if (here.fitsSeen(k, height)) {
                many++;
                least = least == NONE ? height : least;
                greatest = height;
            }
        }
        if (what == 0) {
            return many;
        }
        return what == 1 ? least : greatest;
    }

    public int note(int k, int t, int f, int y, int x) {
        boolean good = isThing(k) && isHeight(t) && within(f, 0, CELLS - 1);
        if (!good || !within(y, 0, 99) || !within(x, 0, 99)) {
            return refuseBad();
        }
        if (here.notes.isFull()) {
            return refuseFull();
        }
        here.notes.add(k, t, f, y, x);
        return here.notes.size();
    }

    public int mark(int p, int n, int y, int x) {
        boolean good = isPart(p) && within(n, 0, MOST_PARTS - 1);
        if (!good || !within(y, 0, 99) || !within(x, 0, 99)) {
            return refuseBad();
        }
        if (here.marks.isFull()) {
            return refuseFull();
        }
        here.marks.add(p, n, y, x, 0);
        return here.marks.size();
    }

    public int forget(int what) {
        switch (what) {
            case 0:
                return forgetAll(here.seen);
            case 1:
                return forgetAll(here.notes);
            case 2:
                return forgetAll(here.marks);
            default:
                return refuseBad();
        }
    }

    public int is(int k) {
        if (!isThing(k)) {
            return refuseBad();
        }
        return guesses.thingKinds(here.notes, k);
    }

    public int look(int k) {
        if (!isThing(k)) {
            return refuseBad();
        }
        int kinds = guesses.thingKinds(here.notes, k);
        return guesses.bestLook(kinds, here.things.at(k, Village.HEIGHT));
    }

    public int kinds(int p) {
        if (!isPart(p)) {
            return refuseBad();
        }
        return guesses.partKinds(here.marks, p);
    }

    public int ask(int p) {
        if (!isPart(p)) {
            return refuseBad();
        }
        return guesses.bestAsk(guesses.partKinds(here.marks, p));
    }

    public int sweep(int p, int k) {
        if (!isPart(p) || k < NONE) {
            return refuseBadTen();
        }
        int until = summersUntil(p);
        bets.settle(until == NONE ? Bets.LATE : Math.min(until, Bets.LATE));
        return k == NONE ? bets.resting() : bets.restingAt(k);
    }

    public int falls(int cell, int c) {
        if (!isCell(cell) || !within(c, 0, 10)) {
            return refuseBad();
        }
        if (!here.mayBeHim(cell)) {
            fraction.set(0, 1);
            return 1;
        }
        // he must stand, and all that draw more must have fallen; the others do not matter
        long above = 10 - c;
        long below = 10;
        int others = Integer.bitCount(here.stronger(cell) & here.now.up);
        for (int fallen = 0; fallen < others; fallen++) {
            above *= c;
            below *= 10;
        }
        fraction.set(above, below);
        return 1;
    }

    public int septembers(int seed, int n) {
        if (!within(seed, 0, 999999) || !within(n, 0, FARTHEST_LOOK)) {
            return refuseBad();
        }
        trial.takeFrom(here.now);
        long x = seed;
        for (int gone = 0; gone < n; gone++) {
            x = (x * 1103515245L + 12345L) % 2147483648L;
            here.pass(trial, (int) (x / 65536L % CELLS), (int) (x / 1048576L % 10L));
        }
        return trial.partsThere();
    }

    // ---- what there is

    public long part(int what) {
        if (!within(what, 0, 1)) {
            return refuseBad();
        }
        return what == 0 ? fraction.above() : fraction.below();
    }

    public int image(int i) {
        if (!within(i, 0, 1)) {
            return refuseBad();
        }
        imageAt(i).takeFrom(here);
        firstKept = firstKept || i == 0;
        secondKept = secondKept || i == 1;
        return 1;
    }

    public int from(int i) {
        if (!within(i, 0, 1)) {
            return refuseBad();
        }
        if (!(i == 0 ? firstKept : secondKept)) {
            return refuseNo();
        }
        here.takeFrom(imageAt(i));
        return 1;
    }

    public int status(int what) {
        switch (what) {
            case 0:
                return badCalls;
            case 1:
                return noCalls;
            case 2:
                return fullCalls;
            default:
                refuseBad();
                return NONE;
        }
    }

    public int count(int what) {
        if (!within(what, 0, 10)) {
            return refuseBad();
        }
        return countOf(what);
    }

    public long digest() {
        long h = 1621;
        for (int what = 0; what <= 10; what++) {
            h = 31 * h + countOf(what);
        }
        h = here.digestOn(h);
        h = 31 * h + fraction.above();
        return 31 * h + fraction.below();
    }

    // ---- what is refused

    private int refuseBad() {
        badCalls++;
        return BAD;
    }

    private int refuseBadTen() {
        badCalls++;
        return BAD_TEN;
    }

    private int refuseNo() {
        noCalls++;
        return NO;
    }

    private int refuseFull() {
        fullCalls++;
        return FULL;
    }

    private static boolean within(int number, int least, int most) {
        return number >= least && number <= most;
    }

    private static boolean isCell(int c) {
        return within(c, 0, CELLS - 1);
    }

    private static boolean isStorm(int y) {
        return within(y, 0, STORMS - 1);
    }

    private static boolean isKind(int kind) {
        return within(kind, 0, KINDS - 1);
    }

    private static boolean isHeight(int height) {
        return within(height, 1, MOST_HEIGHT);
    }

    private boolean isThing(int k) {
        return within(k, 0, here.things.size() - 1);
    }

    private boolean isPart(int p) {
        return within(p, 0, here.parts.size() - 1);
    }

    // ---- helpers of several calls

    private Village imageAt(int i) {
        return i == 0 ? firstImage : secondImage;
    }

    private static int forgetAll(Table table) {
        int rows = table.size();
        table.empty();
        return rows;
    }

    private boolean isSparedBy(int set) {
        for (int c = 0; c < CELLS; c++) {
            if (((set | 1 << HIM) & ahead.at(c)) == 0) {
                return false;
            }
        }
        return true;
    }

    private int summersUntil(int p) {
        trial.takeFrom(here.now);
        for (int gone = 0; gone <= FARTHEST_LOOK; gone++) {
            if (trial.isThere(p)) {
                return gone;
            }
            here.passTold(trial, 1, NO_LAST_SUMMER);
        }
        return NONE;
    }

    private int countOf(int what) {
        switch (what) {
            case 0:
                return here.things.size();
            case 1:
                return Integer.bitCount(here.now.up);
            case 2:
                return here.parts.size();
            case 3:
                return here.now.partsThere();
            case 4:
                return here.now.summer;
            case 5:
                return here.now.charge;
            case 6:
                return here.seen.size();
            case 7:
                return here.notes.size();
            case 8:
                return here.marks.size();
            case 9:
                return here.earlier.size();
            default:
                return text.length();
        }
    }

    /** How much a THING of a KIND draws, and how much CHARGE a PART of a KIND needs. */
    private static final class Kinds {
        private Kinds() {
        }

        static int draw(int kind, int height, int far, int summer) {
            int tree = height > far ? height - far : 0;
            int steeple = tree + 5;
            int rod = 2 * tree;
            switch (kind) {
                case 0:
                    return tree;
                case 1:
                    return steeple;
                case 2:
                    return rod;
                case 3:
                    return summer % 2 == 0 ? rod : 0;
                case 4:
                    return far <= 1 ? tree + 9 : tree;
                case 5:
                    return summer < 5 ? steeple + summer : steeple + 5;
                default:
                    return 0;
            }
        }

        static int need(int kind, int there, int summer) {
            int foot = 4;
            int coat = foot + 2 * there;
            int hand = summer % 2 == 1 ? foot - 1 : foot;
            switch (kind) {
                case 0:
                    return foot;
                case 1:
                    return coat;
                case 2:
                    return hand;
                case 3:
                    return coat / 2;
                case 4:
                    return coat + 6;
                case 5:
                    return there >= 3 ? 1 : hand;
                default:
                    return 0;
            }
        }
    }

    /** A row of numbers. Beside it all are 0 and nothing is put, so no index can be wrong. */
    private static final class Row {
        private final int[] cells;

        Row(int length) {
            cells = new int[Math.max(length, 0)];
        }

        int at(int place) {
            return place >= 0 && place < cells.length ? cells[place] : 0;
        }

        void put(int place, int number) {
            if (place >= 0 && place < cells.length) {
                cells[place] = number;
            }
        }

        void fill(int number) {
            for (int i = 0; i < cells.length; i++) {
                cells[i] = number;
            }
        }
    }

    /** Lines of so many numbers each, as they come, up to a most. Beside them all is as beside a row. */
    private static final class Table {
        private final int most;
        private final int width;
        private final int[] cells;
        private int size;

        Table(int most, int width) {
            this.most = most;
            this.width = width;
            this.cells = new int[Math.max(most * width, 0)];
        }

        int size() {
            return size;
        }

        boolean isFull() {
            return size >= most;
        }

        void empty() {
            size = 0;
        }

        int at(int line, int column) {
            int place = line * width + column;
            boolean has = line >= 0 && line < size && column >= 0 && column < width;
            return has && place >= 0 && place < cells.length ? cells[place] : 0;
        }

        void put(int line, int column, int number) {
            int place = line * width + column;
            boolean has = line >= 0 && line < size && column >= 0 && column < width;
            if (has && place >= 0 && place < cells.length) {
                cells[place] = number;
            }
        }

        /** One line more; a table of fewer columns leaves the last ones out. */
        void add(int a, int b, int c, int d, int e) {
            if (isFull()) {
                return;
            }
            int line = size;
            size++;
            put(line, 0, a);
            put(line, 1, b);
            put(line, 2, c);
            put(line, 3, d);
            put(line, 4, e);
        }

        void dropFirst() {
            for (int line = 1; line < size; line++) {
                for (int column = 0; column < width; column++) {
                    put(line - 1, column, at(line, column));
                }
            }
            dropLast();
        }

        void dropLast() {
            size = Math.max(size - 1, 0);
        }

        void takeFrom(Table other) {
            size = Math.min(other.size, most);
            for (int line = 0; line < size; line++) {
                for (int column = 0; column < width; column++) {
                    put(line, column, other.at(line, column));
                }
            }
        }

        long digestOn(long digest) {
            long h = digest;
            for (int line = 0; line < size; line++) {
                for (int column = 0; column < width; column++) {
                    h = 31 * h + at(line, column);
                }
            }
            return h;
        }
    }

    /** What summers, things taken down and put up change, and what is undone. */
    private static final class Moment {
        int up;
        int there;
        int charge;
        int summer;

        void set(int up, int there, int charge, int summer) {
            this.up = up;
            this.there = there;
            this.charge = charge;
            this.summer = summer;
        }

        void takeFrom(Moment other) {
            set(other.up, other.there, other.charge, other.summer);
        }

        boolean isUp(int k) {
            return (up >> k & 1) == 1;
        }

        boolean isThere(int p) {
            return (there >> p & 1) == 1;
        }

        int partsThere() {
            return Integer.bitCount(there);
        }
    }

    /** All that an image keeps: storms, things, parts, what was seen, and what may be undone. */
    private static final class Village {
        static final int KIND = 0;
        static final int HEIGHT = 1;
        static final int THING_CELL = 2;
        static final int STORM_CELL = 0;
        static final int STRENGTH = 1;

        final Table storms = new Table(STORMS, 2);
        final Table things = new Table(MOST_THINGS, 3);
        final Table parts = new Table(MOST_PARTS, 1);
        final Table seen = new Table(5, 2);
        final Table notes = new Table(6, 5);
        final Table marks = new Table(6, 4);
        final Table earlier = new Table(8, 4);
        final Moment now = new Moment();

        Village() {
            begin();
        }

        void begin() {
            storms.empty();
            for (int y = 0; y < STORMS; y++) {
                storms.add(0, 0, 0, 0, 0);
            }
            things.empty();
            parts.empty();
            seen.empty();
            notes.empty();
            marks.empty();
            earlier.empty();
            now.set(0, 0, 0, 0);
        }

        void takeFrom(Village other) {
            storms.takeFrom(other.storms);
            things.takeFrom(other.things);
            parts.takeFrom(other.parts);
            seen.takeFrom(other.seen);
            notes.takeFrom(other.notes);
            marks.takeFrom(other.marks);
            earlier.takeFrom(other.earlier);
            now.takeFrom(other.now);
        }

        void tellStorm(int y, int c, int strength) {
            storms.put(y, STORM_CELL, c);
            storms.put(y, STRENGTH, strength);
            earlier.empty();
        }

        int addThing(int kind, int height, int c) {
            int k = things.size();
            things.add(kind, height, c, 0, 0);
            now.up |= 1 << k;
            earlier.empty();
            return k;
        }

        int addPart(int kind) {
            int p = parts.size();
            parts.add(kind, 0, 0, 0, 0);
            earlier.empty();
            return p;
        }

        void turn(int k) {
            now.up ^= 1 << k;
        }

        void remember() {
            if (earlier.isFull()) {
                earlier.dropFirst();
            }
            earlier.add(now.up, now.there, now.charge, now.summer, 0);
        }

        void goBack() {
            int last = earlier.size() - 1;
            now.set(earlier.at(last, 0), earlier.at(last, 1), earlier.at(last, 2), earlier.at(last, 3));
            earlier.dropLast();
        }

        /** So many summers with the storms told, none beyond the last one. */
        void passTold(Moment moment, int n, int last) {
            for (int gone = 0; gone < n && moment.summer < last; gone++) {
                int y = moment.summer % STORMS;
                pass(moment, storms.at(y, STORM_CELL), storms.at(y, STRENGTH));
            }
        }

        void pass(Moment moment, int c, int strength) {
            if (strength >= 1 && struckIf(c, moment, NONE, 0) == HIM) {
                moment.charge = Math.min(moment.charge + strength, MOST_CHARGE);
            }
            bringParts(moment);
            moment.summer++;
        }

        int needOf(int p, int there, int summer) {
            return Kinds.need(parts.at(p, KIND), there, summer);
        }

        /** What a thing draws now. */
        int drawOf(int k, int c) {
            int far = Math.abs(things.at(k, THING_CELL) - c);
            return Kinds.draw(things.at(k, KIND), things.at(k, HEIGHT), far, now.summer);
        }

        /** Whether a storm there now would strike HIM if nothing else were up. */
        boolean mayBeHim(int c) {
            return now.isUp(HIM) && drawOf(HIM, c) >= 1;
        }

        int struckNow(int c) {
            return struckIf(c, now, NONE, 0);
        }

        /** The things (bits, not HE, up or down) that would be struck ahead of HIM if they were up. */
        int stronger(int c) {
            int his = drawOf(HIM, c);
            int set = 0;
            for (int k = HIM + 1; k < things.size(); k++) {
                if (drawOf(k, c) > his) {
                    set |= 1 << k;
                }
            }
            return set;
        }

        /** Whether all that was seen would be so if this thing had that height. */
        boolean fitsSeen(int k, int height) {
            for (int i = 0; i < seen.size(); i++) {
                if (struckIf(seen.at(i, 0), now, k, height) != seen.at(i, 1)) {
                    return false;
                }
            }
            return true;
        }

        long digestOn(long digest) {
            long h = storms.digestOn(digest);
            for (int k = 0; k < things.size(); k++) {
                h = 31 * h + things.at(k, KIND);
                h = 31 * h + things.at(k, HEIGHT);
                h = 31 * h + things.at(k, THING_CELL);
                h = 31 * h + (now.isUp(k) ? 1 : 0);
            }
            for (int p = 0; p < parts.size(); p++) {
                h = 31 * h + parts.at(p, KIND);
                h = 31 * h + (now.isThere(p) ? 1 : 0);
            }
            return marks.digestOn(notes.digestOn(seen.digestOn(h)));
        }

        private void bringParts(Moment moment) {
            for (int p = 0; p < parts.size(); p++) {
                if (!moment.isThere(p)) {
                    int need = Kinds.need(parts.at(p, KIND), moment.partsThere(), moment.summer);
                    if (moment.charge < need) {
                        return;
                    }
                    moment.charge -= need;
                    moment.there |= 1 << p;
                }
            }
        }

        /** What a storm would strike if the thing told had another height. */
        private int struckIf(int c, Moment moment, int told, int height) {
            int struck = NONE;
            int most = 0;
            for (int k = 0; k < things.size(); k++) {
                int tall = k == told ? height : things.at(k, HEIGHT);
                int far = Math.abs(things.at(k, THING_CELL) - c);
                int drawn = Kinds.draw(things.at(k, KIND), tall, far, moment.summer);
                if (moment.isUp(k) && drawn > most) {
                    struck = k;
                    most = drawn;
                }
            }
            return struck;
        }
    }

    /** The order in which most of the parts that are not there come, the first of all such. */
    private static final class Orders {
        private static final int SETS = 1 << MOST_PARTS;
        private static final int NEVER = 1000000;

        private final Row left = new Row(SETS);
        private final Row least = new Row(SETS);
        private final Row order = new Row(MOST_PARTS);
        private int length;
        private int most;

        int length() {
            return length;
        }

        int most() {
            return most;
        }

        int at(int k) {
            return order.at(k);
        }

        // what a part needs hangs on how many are there, not on which: sets of
        // parts tell as much as orders do, and there are far fewer of them
        void search(Village village, int charge) {
            int there = village.now.there;
            length = village.parts.size() - Integer.bitCount(there);
            spend(village, charge);
            most = mostReached(there);
            reach(village, Integer.bitCount(there) + most);
            choose(village, charge);
        }

        /** For each set of parts there: the most charge left behind it, NONE if it is not reached. */
        private void spend(Village village, int charge) {
            left.fill(NONE);
            left.put(village.now.there, charge);
            for (int set = 0; set < SETS; set++) {
                for (int p = 0; p < village.parts.size() && left.at(set) >= 0; p++) {
                    int next = set | 1 << p;
                    int rest = left.at(set) - needBehind(village, set, p);
                    if (next != set && rest > left.at(next)) {
                        left.put(next, rest);
                    }
                }
            }
        }

        private int mostReached(int there) {
            int reached = 0;
            for (int set = 0; set < SETS; set++) {
                if (left.at(set) >= 0) {
                    reached = Math.max(reached, Integer.bitCount(set));
                }
            }
            return Math.max(reached - Integer.bitCount(there), 0);
        }

        /** For each set of parts there: the least charge by which so many are there in the end. */
        private void reach(Village village, int goal) {
            for (int set = SETS - 1; set >= 0; set--) {
                int cheapest = Integer.bitCount(set) == goal ? 0 : NEVER;
                for (int p = 0; p < village.parts.size() && cheapest > 0; p++) {
                    int next = set | 1 << p;
                    if (next != set) {
                        cheapest = Math.min(cheapest, needBehind(village, set, p) + least.at(next));
                    }
                }
                least.put(set, cheapest);
            }
        }

        private void choose(Village village, int charge) {
            int set = village.now.there;
            int rest = charge;
            for (int k = 0; k < length; k++) {
                int p = firstFitting(village, set, rest, k < most);
                rest -= needBehind(village, set, p);
                order.put(k, p);
                set |= 1 << p;
            }
        }

        /** The least part not in the set; while parts come, one behind which the most is still reached. */
        private int firstFitting(Village village, int set, int rest, boolean comes) {
            for (int p = 0; p < village.parts.size(); p++) {
                int next = set | 1 << p;
                boolean fits = !comes || needBehind(village, set, p) + least.at(next) <= rest;
                if (next != set && fits) {
                    return p;
                }
            }
            return 0;
        }

        private static int needBehind(Village village, int set, int p) {
            return village.needOf(p, Integer.bitCount(set), village.now.summer);
        }
    }

    /** Which kinds fit what was written down, and by which next look fewest of them stay alike. */
    private static final class Guesses {
        private final Row answers = new Row(KINDS);

        int thingKinds(Table notes, int k) {
            int kinds = (1 << KINDS) - 1;
            for (int i = 0; i < notes.size(); i++) {
                if (notes.at(i, 0) == k) {
                    drawAll(notes.at(i, 1), notes.at(i, 2), notes.at(i, 3));
                    kinds &= answering(notes.at(i, 4));
                }
            }
            return kinds;
        }

        int partKinds(Table marks, int p) {
            int kinds = (1 << KINDS) - 1;
            for (int i = 0; i < marks.size(); i++) {
                if (marks.at(i, 0) == p) {
                    needAll(marks.at(i, 1), marks.at(i, 2));
                    kinds &= answering(marks.at(i, 3));
                }
            }
            return kinds;
        }

        int bestLook(int kinds, int height) {
            int best = NONE;
            int fewest = KINDS + 1;
            for (int far = 0; far < CELLS && kinds != 0; far++) {
                for (int summer = 0; summer < 10; summer++) {
                    drawAll(height, far, summer);
                    int alike = mostAlike(kinds);
                    if (alike < fewest) {
                        fewest = alike;
                        best = 100 * far + summer;
                    }
                }
            }
            return best;
        }

        int bestAsk(int kinds) {
            int best = NONE;
            int fewest = KINDS + 1;
            for (int there = 0; there < MOST_PARTS && kinds != 0; there++) {
                for (int summer = 0; summer < 2; summer++) {
                    needAll(there, summer);
                    int alike = mostAlike(kinds);
                    if (alike < fewest) {
                        fewest = alike;
                        best = 10 * there + summer;
                    }
                }
            }
            return best;
        }

        private void drawAll(int height, int far, int summer) {
            for (int kind = 0; kind < KINDS; kind++) {
                answers.put(kind, Kinds.draw(kind, height, far, summer));
            }
        }

        private void needAll(int there, int summer) {
            for (int kind = 0; kind < KINDS; kind++) {
                answers.put(kind, Kinds.need(kind, there, summer));
            }
        }

        private int answering(int answer) {
            int kinds = 0;
            for (int kind = 0; kind < KINDS; kind++) {
                if (answers.at(kind) == answer) {
                    kinds |= 1 << kind;
                }
            }
            return kinds;
        }

        private int mostAlike(int kinds) {
            int most = 0;
            for (int kind = 0; kind < KINDS; kind++) {
                most = Math.max(most, Integer.bitCount(kinds & answering(answers.at(kind))));
            }
            return most;
        }
    }

    /** Two in a sweep: the pairs of bets at which neither would get more by another one. */
    private static final class Bets {
        static final int LATE = 10;
        private static final int BETS = 10;

        private final Row best = new Row(BETS);
        private int when;

        void settle(int summers) {
            when = summers;
            for (int other = 0; other < BETS; other++) {
                int most = 0;
                for (int mine = 0; mine < BETS; mine++) {
                    most = Math.max(most, gain(mine, other));
                }
                best.put(other, most);
            }
        }

        int resting() {
            int pairs = 0;
            for (int pair = 0; pair < BETS * BETS; pair++) {
                if (rests(pair)) {
                    pairs++;
                }
            }
            return pairs;
        }

        int restingAt(int k) {
            int pairs = 0;
            for (int pair = 0; pair < BETS * BETS; pair++) {
                if (rests(pair)) {
                    if (pairs == k) {
                        return pair;
                    }
                    pairs++;
                }
            }
            return NOT_SO_MANY;
        }

        private boolean rests(int pair) {
            int i = pair / BETS;
            int j = pair % BETS;
            return gain(i, j) == best.at(j) && gain(j, i) == best.at(i);
        }

        private int gain(int mine, int other) {
            int off = Math.abs(mine - when);
            int otherOff = Math.abs(other - when);
            if (off == otherOff) {
                return 6;
            }
            return off < otherOff ? 12 - off : 0;
        }
    }

    /** A chance in lowest terms. */
    private static final class Fraction {
        private long above = 0;
        private long below = 1;

        long above() {
            return above;
        }

        long below() {
            return below;
        }

        void set(long over, long under) {
            long common = commonOf(over, under);
            if (common != 0) {
                above = over / common;
                below = under / common;
            }
        }

        private static long commonOf(long one, long other) {
            long a = one;
            long b = other;
            for (int round = 0; round < 100 && b != 0; round++) {
                long rest = a % b;
                a = b;
                b = rest;
            }
            return a;
        }
    }

    /** THE TEXT, and how a village is told by it, token by token. */
    private static final class Text {
        private static final int MOST = 150;
        private static final int END = 0;
        private static final int WRONG = 1;
        private static final int STOP = 2;
        private static final int NUMBER = 3;
        private static final int VILLAGE = 4;
        private static final int STORM = 5;
        private static final int THING = 6;
        private static final int PART = 7;
        private static final int TAKE = 8;
        private static final int SUMMERS = 9;

        private final Row bytes = new Row(MOST);
        private final Row told = new Row(3);
        private int length;
        private int token;
        private int start;
        private int next;
        private int number;

        int length() {
            return length;
        }

        boolean isFull() {
            return length >= MOST;
        }

        void add(int c) {
            bytes.put(length, c);
            length++;
        }

        void empty() {
            length = 0;
        }

        /** Tells all to a village as at first: how many items, or -10 less the fault. */
        int tellTo(Village village) {
            next = 0;
            for (int items = 0; items <= MOST; items++) {
                nextToken();
                if (token == END && items > 0) {
                    return items;
                }
                int word = token;
                if (!mayStand(word, village, items == 0) || !readNumbers(word, village) || !readStop()) {
                    // the token that was looked at last is the one that can not stand there
                    return FAULT_FROM - start;
                }
                tell(word, village);
            }
            return FAULT_FROM - length;
        }

        private static boolean mayStand(int word, Village village, boolean first) {
            if (first) {
                return word == VILLAGE;
            }
            switch (word) {
                case THING:
                    return !village.things.isFull();
                case PART:
                    return !village.parts.isFull();
                case STORM:
                case TAKE:
                case SUMMERS:
                    return true;
                default:
                    return false;
            }
        }

        private boolean readNumbers(int word, Village village) {
            int numbers = numbersOf(word);
            for (int place = 0; place < numbers; place++) {
                nextToken();
                boolean may = within(number, leastOf(word, place), mostOf(word, place, village));
                if (token != NUMBER || !may) {
                    return false;
                }
                told.put(place, number);
            }
            return true;
        }

        private boolean readStop() {
            nextToken();
            return token == STOP;
        }

        private static int numbersOf(int word) {
            switch (word) {
                case STORM:
                case THING:
                    return 3;
                case PART:
                case TAKE:
                case SUMMERS:
                    return 1;
                default:
                    return 0;
            }
        }

        private static int leastOf(int word, int place) {
            boolean fromOne = word == SUMMERS || (word == THING && place == 1);
            return fromOne ? 1 : 0;
        }

        private static int mostOf(int word, int place, Village village) {
            switch (word) {
                case STORM:
                    return place == 0 ? STORMS - 1 : place == 1 ? CELLS - 1 : MOST_STRENGTH;
                case THING:
                    return place == 0 ? KINDS - 1 : place == 1 ? MOST_HEIGHT : CELLS - 1;
                case PART:
                    return KINDS - 1;
                case TAKE:
                    return village.things.size() - 1;
                default:
                    return 99;
            }
        }

        private void tell(int word, Village village) {
            switch (word) {
                case STORM:
                    village.tellStorm(told.at(0), told.at(1), told.at(2));
                    break;
                case THING:
                    village.addThing(told.at(0), told.at(1), told.at(2));
                    break;
                case PART:
                    village.addPart(told.at(0));
                    break;
                case TAKE:
                    village.turn(told.at(0));
                    break;
                case SUMMERS:
                    village.passTold(village.now, told.at(0), LAST_SUMMER);
                    break;
                default:
                    break;
            }
        }

        /** Goes on to the next token; the end begins behind the last byte. */
        private void nextToken() {
            start = runEnd(next, ' ', ' ');
            int c = bytes.at(start);
            if (start >= length) {
                next = start;
                token = END;
            } else if (within(c, 'a', 'z')) {
                next = runEnd(start, 'a', 'z');
                token = wordToken();
            } else if (within(c, '0', '9')) {
                next = runEnd(start, '0', '9');
                token = numberToken();
            } else {
                next = start + 1;
                token = c == ';' ? STOP : WRONG;
            }
        }

        /** The first place from here on whose byte is none of these. */
        private int runEnd(int from, int least, int most) {
            int end = from;
            while (end < length && within(bytes.at(end), least, most)) {
                end++;
            }
            return end;
        }

        private int numberToken() {
            number = 0;
            if (next - start > 2) {
                return WRONG;
            }
            for (int i = start; i < next; i++) {
                number = 10 * number + bytes.at(i) - '0';
            }
            return NUMBER;
        }

        private int wordToken() {
            for (int word = VILLAGE; word <= SUMMERS; word++) {
                if (spells(wordOf(word))) {
                    return word;
                }
            }
            return WRONG;
        }

        private static String wordOf(int word) {
            switch (word) {
                case VILLAGE:
                    return "village";
                case STORM:
                    return "storm";
                case THING:
                    return "thing";
                case PART:
                    return "part";
                case TAKE:
                    return "take";
                default:
                    return "summers";
            }
        }

        private boolean spells(String word) {
            if (word.length() != next - start) {
                return false;
            }
            for (int i = 0; i < word.length(); i++) {
                if (word.charAt(i) != bytes.at(start + i)) {
                    return false;
                }
            }
            return true;
        }
    }
}
