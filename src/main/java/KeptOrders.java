/** Which orders of a small table to keep, told in looks; README.md says how to use it. */
public final class KeptOrders {
    public static final int NONE = -1, UNKNOWN = -101, OUTSIDE = -102, STATE = -103, FULL = -104;

    private static final int SLOTS = 64;
    private static final int COLUMNS = 4;
    private static final int ALL_COLUMNS = 15;
    private static final int GREATEST = 99;
    private static final int WIDE_LEAST = 2;
    private static final int WIDE_GREATEST = 8;
    private static final int WIDE_AT_FIRST = 4;
    private static final int ORDERS = 8;
    private static final int KEY_COLUMNS = 3;
    private static final int SETS = 256;
    private static final int ALL_ORDERS = 255;
    private static final int QUESTIONS = 8;
    private static final int WAYS = 37;
    private static final int PARTS = 4;
    private static final int MARKS = 3;
    private static final int LETTERS = 60;
    private static final int LETTER_GREATEST = 126;
    private static final int BYTES = 8;
    private static final int SPACE_GREATEST = 9999;
    private static final int TIMES = 20;
    private static final int FIRST_STEP = 10;
    private static final int COUNTS = 9;

    private final Table table;
    private final Orders orders;
    private final Ways ways;
    private final Workload workload;
    private final Pictures pictures;
    private final Sheet sheet = new Sheet();
    private final Marks marks = new Marks();
    private int choices;
    private int stepwise;

    public KeptOrders() {
        Table rows = new Table();
        Orders kept = new Orders(rows);
        Ways listed = new Ways(rows, kept);
        table = rows;
        orders = kept;
        ways = listed;
        workload = new Workload(kept, listed);
        pictures = new Pictures(rows, kept);
    }

    // ---- rows

    public int row(int a, int b, int c, int d) {
        if (!isNumber(a) || !isNumber(b) || !isNumber(c) || !isNumber(d)) {
            return OUTSIDE;
        }
        int slot = table.emptySlot();
        if (slot == NONE) {
            return FULL;
        }
        table.put(slot, 0, a);
        table.put(slot, 1, b);
        table.put(slot, 2, c);
        table.put(slot, 3, d);
        rowComes(slot);
        return slot;
    }

    public int set(int slot, int column, int v) {
        if (!table.holds(slot) || !isColumn(column)) {
            return UNKNOWN;
        }
        if (!isNumber(v)) {
            return OUTSIDE;
        }
        int was = table.number(slot, column);
        orders.entriesGo(slot);
        table.put(slot, column, v);
        orders.entriesCome(slot);
        return was;
    }

    public int drop(int slot) {
        if (!table.holds(slot)) {
            return UNKNOWN;
        }
        orders.entriesGo(slot);
        table.release(slot);
        return table.rows();
    }

    public int fill(int x, int n, int most) {
        if (x < 0 || n < 1 || n > SLOTS || most < 1 || most > GREATEST + 1) {
            return OUTSIDE;
        }
        long seed = x;
        int came = 0;
        for (int i = 0; i < n; i++) {
            int slot = table.emptySlot();
            if (slot == NONE) {
                break;
            }
            for (int column = 0; column < COLUMNS; column++) {
                seed = (1103515245L * seed + 12345L) & 2147483647L;
                table.put(slot, column, rest((int) (seed / 65536L), most));
            }
            rowComes(slot);
            came++;
        }
        return came;
    }

    public int get(int slot, int column) {
        if (!isSlot(slot) || !isColumn(column)) {
            return UNKNOWN;
        }
        return table.holds(slot) ? table.number(slot, column) : NONE;
    }

    public int wide(int v) {
        if (v < WIDE_LEAST || v > WIDE_GREATEST) {
            return OUTSIDE;
        }
        int was = table.pageWidth();
        table.widen(v);
        return was;
    }

    // ---- orders

    public int order(int key) {
        if (!Order.isKey(key)) {
            return OUTSIDE;
        }
        if (orders.haveKey(key)) {
            return STATE;
        }
        if (orders.told() >= ORDERS) {
            return FULL;
        }
        return orders.tell(key);
    }

    public int lose(int order) {
        Order lost = orders.kept(order);
        if (lost == null) {
            return UNKNOWN;
        }
        lost.dismiss();
        return lost.size();
    }

    public int pack(int order) {
        Order packed = orders.kept(order);
        if (packed == null) {
            return UNKNOWN;
        }
        int was = packed.size();
        packed.fillLeaves();
        return was - packed.size();
    }

    public int about(int order, int what) {
        Order asked = orders.kept(order);
        if (asked == null) {
            return UNKNOWN;
        }
        switch (what) {
            case 0:
                return asked.key();
            case 1:
                return asked.leaves();
            case 2:
                return asked.height();
            case 3:
                return asked.size();
            case 4:
                return asked.cuts();
            default:
                return OUTSIDE;
        }
    }

    public int entry(int order, int i) {
        Order asked = orders.kept(order);
        return asked == null ? UNKNOWN : asked.slotAt(i);
    }

    public int leaf(int order, int i) {
        Order asked = orders.kept(order);
        return asked == null ? UNKNOWN : asked.entriesInLeaf(i);
    }

    // ---- questions

    public int letters(long w) {
        int come = lettersIn(w);
        if (come == NONE) {
            return OUTSIDE;
        }
        if (sheet.length() + come > LETTERS) {
            return FULL;
        }
        for (int i = 0; i < come; i++) {
            sheet.write(byteOf(w, i));
        }
        return sheet.length();
    }

    public int blank() {
        int had = sheet.length();
        sheet.clear();
        return had;
    }

    public int good() {
        return sheet.read();
    }

    public int ask() {
        if (sheet.read() < sheet.length() || !sheet.isWhole()) {
            return STATE;
        }
        if (workload.asked() >= QUESTIONS) {
            return FULL;
        }
        int number = workload.add(sheet.handOver());
        sheet.clear();
        return number;
    }

    public int bound(int question, int column, int side) {
        Question asked = workload.question(question);
        if (asked == null || !isColumn(column)) {
            return UNKNOWN;
        }
        if (side != 0 && side != 1) {
            return OUTSIDE;
        }
        if (asked.letsNone(column)) {
            return side == 0 ? 0 : -1;
        }
        return side == 0 ? asked.least(column) : asked.greatest(column);
    }

    public int weight(int question, int v) {
        Question asked = workload.question(question);
        if (asked == null) {
            return UNKNOWN;
        }
        if (!isNumber(v)) {
            return OUTSIDE;
        }
        int was = asked.heft();
        asked.weigh(v);
        return was;
    }

    public int answers(int question) {
        Question asked = workload.question(question);
        return asked == null ? UNKNOWN : Long.bitCount(asked.rowsWithin(table, ALL_COLUMNS));
    }

    public int answer(int question, int i) {
        Question asked = workload.question(question);
        return asked == null ? UNKNOWN : asked.placed(table, i);
    }

    // ---- ways

    public int looks(int question, int way) {
        Question asked = workload.question(question);
        if (asked == null) {
            return UNKNOWN;
        }
        ways.list(asked);
        int listed = ways.placeOf(way);
        return listed == NONE ? UNKNOWN : ways.costAt(listed);
    }

    public int run(int question, int order) {
        Question asked = workload.question(question);
        Order along = orders.kept(order);
        if (asked == null || along == null) {
            return UNKNOWN;
        }
        return Long.bitCount(asked.rowsWithin(table, along.runColumns(asked)));
    }

    public int best(int question, int set) {
        Question asked = workload.question(question);
        if (asked == null) {
            return UNKNOWN;
        }
        if (!isSet(set)) {
            return OUTSIDE;
        }
        ways.list(asked);
        return ways.numberAt(ways.bestPlace(set));
    }

    public int work(int set) {
        return isSet(set) ? workload.workOf(set) : OUTSIDE;
    }

    public int upkeep(int v) {
        if (!isNumber(v)) {
            return OUTSIDE;
        }
        int was = workload.upkeepNow();
        workload.setUpkeep(v);
        return was;
    }

    public int choose(int space, int what) {
        if (!isSpace(space) || what < 0 || what > 2) {
            return OUTSIDE;
        }
        if (choices >= TIMES) {
            return STATE;
        }
        choices++;
        int set = workload.bestSet(space);
        if (what == 0) {
            return set;
        }
        return what == 1 ? workload.workedOut(set) : orders.sizesOf(set);
    }

    public int steps(int space, int what) {
        boolean isStep = what >= FIRST_STEP && what < FIRST_STEP + ORDERS;
        if (!isSpace(space) || (!isStep && (what < 0 || what > 2))) {
            return OUTSIDE;
        }
        if (stepwise >= TIMES) {
            return STATE;
        }
        stepwise++;
        int set = workload.stepByStep(space);
        if (isStep) {
            return workload.stepAt(what - FIRST_STEP);
        }
        if (what == 0) {
            return set;
        }
        return what == 1 ? workload.workedOut(set) : Integer.bitCount(set);
    }

    public int worth(int set, int order) {
        if (orders.kept(order) == null) {
            return UNKNOWN;
        }
        if (!isSet(set)) {
            return OUTSIDE;
        }
        if (!has(set, order)) {
            return UNKNOWN;
        }
        return workload.workOf(without(set, order)) - workload.workOf(set);
    }

    // ---- pictures

    public int picture(int column) {
        return isColumn(column) ? pictures.take(column) : UNKNOWN;
    }

    public int part(int column, int i, int what) {
        Picture asked = pictures.of(column);
        if (asked == null) {
            return UNKNOWN;
        }
        if (i < 0 || i >= PARTS || what < 0 || what > 2) {
            return OUTSIDE;
        }
        if (asked.partCount(i) == 0) {
            return NONE;
        }
        if (what == 0) {
            return asked.partCount(i);
        }
        return what == 1 ? asked.partLeast(i) : asked.partGreatest(i);
    }

    public int foretold(int column, int least, int greatest, int sort) {
        Picture asked = pictures.of(column);
        if (asked == null) {
            return UNKNOWN;
        }
        if (sort < 0 || sort > 2 || !isNumber(least) || !isNumber(greatest) || least > greatest) {
            return OUTSIDE;
        }
        if (!asked.isTaken()) {
            return NONE;
        }
        if (sort == 0) {
            return asked.surelyWithin(least, greatest);
        }
        return sort == 1 ? asked.perhapsWithin(least, greatest) : asked.likelyWithin(least, greatest);
    }

    public int likely(int question) {
        Question asked = workload.question(question);
        return asked == null ? UNKNOWN : pictures.likelyRows(asked, ALL_COLUMNS);
    }

    public int guess(int question, int way) {
        Question asked = workload.question(question);
        if (asked == null) {
            return UNKNOWN;
        }
        if (way == 0) {
            return pictures.looksByTable(asked);
        }
        Order along = way > 0 ? orders.kept(way - 1) : null;
        return along == null ? UNKNOWN : pictures.looksByOrder(asked, along);
    }

    public int chosen(int question) {
        Question asked = workload.question(question);
        return asked == null ? UNKNOWN : pictures.chosenWay(asked);
    }

    public int regret(int question) {
        Question asked = workload.question(question);
        if (asked == null) {
            return UNKNOWN;
        }
        ways.list(asked);
        int taken = ways.placeOf(pictures.chosenWay(asked));
        return ways.costAt(taken) - ways.costAt(ways.bestPlace(ALL_ORDERS));
    }

    // ---- marks

    public int mark() {
        return marks.keep(table);
    }

    public int back(int mark) {
        Table kept = marks.numbered(mark);
        if (kept == null) {
            return UNKNOWN;
        }
        table.takeRowsOf(kept);
        orders.rebuild();
        marks.forgetBehind(mark);
        return table.rows();
    }

    // ---- what is told

    public int count(int what) {
        switch (what) {
            case 0:
                return table.rows();
            case 1:
                return table.fullPages();
            case 2:
                return Integer.bitCount(orders.keptSet());
            case 3:
                return orders.told();
            case 4:
                return workload.asked();
            case 5:
                return marks.marked();
            case 6:
                return sheet.length();
            case 7:
                return choices;
            case 8:
                return stepwise;
            default:
                return OUTSIDE;
        }
    }

    public long digest() {
        long h = mixed(241L, table.pageWidth());
        h = mixTable(h);
        for (int order = 0; order < ORDERS; order++) {
            h = mixOrder(h, order);
        }
        for (int question = 0; question < workload.asked(); question++) {
            h = mixQuestion(h, question);
        }
        h = mixed(h, workload.upkeepNow());
        h = mixPictures(h);
        for (int i = 0; i < sheet.length(); i++) {
            h = mixed(h, sheet.letterAt(i));
        }
        for (int what = 0; what < COUNTS; what++) {
            h = mixed(h, count(what));
        }
        return h;
    }

    private long mixTable(long begun) {
        long h = begun;
        for (int slot = 0; slot < SLOTS; slot++) {
            for (int column = 0; column < COLUMNS; column++) {
                h = mixed(h, get(slot, column));
            }
        }
        return h;
    }

    private long mixOrder(long begun, int order) {
        Order kept = orders.kept(order);
        if (kept == null) {
            return begun;
        }
        long h = begun;
        for (int what = 0; what < 5; what++) {
            h = mixed(h, about(order, what));
        }
        for (int i = 0; i < kept.entries(); i++) {
            h = mixed(h, kept.slotAt(i));
        }
        return h;
    }

    private long mixQuestion(long begun, int question) {
        Question asked = workload.question(question);
        if (asked == null) {
            return begun;
        }
        long h = begun;
        for (int column = 0; column < COLUMNS; column++) {
            h = mixed(h, bound(question, column, 0));
            h = mixed(h, bound(question, column, 1));
        }
        return mixed(h, asked.heft());
    }

    private long mixPictures(long begun) {
        long h = begun;
        for (int column = 0; column < COLUMNS; column++) {
            for (int i = 0; i < PARTS; i++) {
                for (int what = 0; what < 3; what++) {
                    h = mixed(h, part(column, i, what));
                }
            }
        }
        return h;
    }

    private static long mixed(long h, long number) {
        return 31L * h + number;
    }

    private void rowComes(int slot) {
        table.hold(slot);
        orders.entriesCome(slot);
    }

    private static int lettersIn(long w) {
        int found = 0;
        for (int i = 0; i < BYTES; i++) {
            int code = byteOf(w, i);
            if (code == 0) {
                continue;
            }
            if (code > LETTER_GREATEST || found < i) {
                return NONE;
            }
            found++;
        }
        return found;
    }

    private static int byteOf(long w, int i) {
        return (int) (w >>> (8 * i) & 255L);
    }

    private static boolean isSlot(int slot) {
        return slot >= 0 && slot < SLOTS;
    }

    private static boolean isColumn(int column) {
        return column >= 0 && column < COLUMNS;
    }

    private static boolean isNumber(int v) {
        return v >= 0 && v <= GREATEST;
    }

    private static boolean isSet(int set) {
        return set >= 0 && set <= ALL_ORDERS;
    }

    private static boolean isSpace(int space) {
        return space >= 0 && space <= SPACE_GREATEST;
    }

    private static boolean has(int bits, int i) {
        return (bits >> i & 1) != 0;
    }

    private static int with(int bits, int i) {
        return bits | 1 << i;
    }

    private static int without(int bits, int i) {
        return bits & ~(1 << i);
    }

    private static boolean hasSlot(long slots, int slot) {
        return (slots >>> slot & 1L) != 0L;
    }

    /** Rounded down; 0 where nothing can be divided by. */
    private static int quotient(int a, int b) {
        return b > 0 ? a / b : 0;
    }

    private static int roundedUp(int a, int b) {
        return quotient(a + b - 1, b);
    }

    private static int rest(int a, int b) {
        return b > 0 ? a % b : 0;
    }

    /** A row of numbers that tests each index itself, so that no other code needs an array of them. */
    private static final class Numbers {
        private final int[] held;

        Numbers(int length) {
            held = new int[length > 0 ? length : 0];
        }

        int at(int i) {
            return i >= 0 && i < held.length ? held[i] : 0;
        }

        void put(int i, int v) {
            if (i >= 0 && i < held.length) {
                held[i] = v;
            }
        }

        void raise(int i, int by) {
            put(i, at(i) + by);
        }

        /** v comes ahead of what stands at i; used is how many stand. */
        void insert(int i, int used, int v) {
            for (int k = used; k > i; k--) {
                put(k, at(k - 1));
            }
            put(i, v);
        }

        /** What stands at i goes; used is how many stand. */
        void remove(int i, int used) {
            for (int k = i; k < used - 1; k++) {
                put(k, at(k + 1));
            }
        }

        int placeOf(int v, int used) {
            for (int i = 0; i < used; i++) {
                if (at(i) == v) {
                    return i;
                }
            }
            return NONE;
        }

        void copy(Numbers other) {
            for (int i = 0; i < held.length; i++) {
                held[i] = other.at(i);
            }
        }
    }

    /** The rows at their slots, and the pages that these lie on; a set of slots is the bits of a long. */
    private static final class Table {
        private final Numbers numbers = new Numbers(SLOTS * COLUMNS);
        private long taken;
        private int wide = WIDE_AT_FIRST;

        boolean holds(int slot) {
            return isSlot(slot) && hasSlot(taken, slot);
        }

        void hold(int slot) {
            taken |= 1L << slot;
        }

        void release(int slot) {
            taken &= ~(1L << slot);
        }

        long taken() {
            return taken;
        }

        int rows() {
            return Long.bitCount(taken);
        }

        int emptySlot() {
            for (int slot = 0; slot < SLOTS; slot++) {
                if (!hasSlot(taken, slot)) {
                    return slot;
                }
            }
            return NONE;
        }

        int number(int slot, int column) {
            return numbers.at(slot * COLUMNS + column);
        }

        void put(int slot, int column, int v) {
            numbers.put(slot * COLUMNS + column, v);
        }

        int pageWidth() {
            return wide;
        }

        void widen(int v) {
            wide = v;
        }

        int fullPages() {
            return pagesOf(taken);
        }

        /** How many pages hold some of the slots. */
        int pagesOf(long slots) {
            long ofOnePage = (1L << wide) - 1L;
            int found = 0;
            for (int page = 0; page < SLOTS; page++) {
                int first = page * wide;
                if (first >= SLOTS) {
                    break;
                }
                if ((slots >>> first & ofOnePage) != 0L) {
                    found++;
                }
            }
            return found;
        }

        long rowsWithin(int column, int least, int greatest) {
            long found = 0L;
            for (int slot = 0; slot < SLOTS; slot++) {
                int v = numbers.at(slot * COLUMNS + column);
                if (hasSlot(taken, slot) && v >= least && v <= greatest) {
                    found |= 1L << slot;
                }
            }
            return found;
        }

        void takeRowsOf(Table other) {
            numbers.copy(other.numbers);
            taken = other.taken;
        }
    }

    /** One order: its entries lie in one row from first to last, and the leaves' sizes cut that row. */
    private static final class Order {
        private final Table table;
        private final int key;
        private final int width;
        private final int room;
        private final int columns;
        private final Numbers along = new Numbers(KEY_COLUMNS);
        private final Numbers slots = new Numbers(SLOTS);
        private final Numbers sizes = new Numbers(SLOTS);
        private int entries;
        private int leaves;
        private int cuts;
        private boolean dropped;

        Order(Table table, int key) {
            this.table = table;
            this.key = key;
            width = key >= 25 ? 3 : key >= 5 ? 2 : 1;
            room = width == 1 ? 6 : width == 2 ? 4 : 3;
            int figures = key;
            int seen = 0;
            for (int i = width - 1; i >= 0; i--) {
                int column = figures % 5 - 1;
                along.put(i, column);
                seen = with(seen, column);
                figures /= 5;
            }
            columns = seen;
        }

        static boolean isKey(int key) {
            if (key < 1 || key > 124) {
                return false;
            }
            int seen = 0;
            int figures = key;
            for (int i = 0; i < KEY_COLUMNS && figures > 0; i++) {
                int figure = figures % 5;
                if (figure == 0 || has(seen, figure)) {
                    return false;
                }
                seen = with(seen, figure);
                figures /= 5;
            }
            return true;
        }

        int key() {
            return key;
        }

        int columns() {
            return columns;
        }

        int room() {
            return room;
        }

        int entries() {
            return entries;
        }

        int leaves() {
            return leaves;
        }

        int cuts() {
            return cuts;
        }

        boolean isDropped() {
            return dropped;
        }

        void dismiss() {
            dropped = true;
        }

        int slotAt(int i) {
            return i >= 0 && i < entries ? slots.at(i) : NONE;
        }

        int entriesInLeaf(int i) {
            return i >= 0 && i < leaves ? sizes.at(i) : NONE;
        }

        int height() {
            int high = 0;
            for (int n = leaves; n > 1 && high < SLOTS; n = roundedUp(n, 4)) {
                high++;
            }
            return high;
        }

        int size() {
            int sum = leaves;
            int n = leaves;
            for (int high = height(); high > 0; high--) {
                n = roundedUp(n, 4);
                sum += n;
            }
            return sum;
        }

        /** All rows anew, packed. */
        void rebuild() {
            entries = 0;
            for (int slot = 0; slot < SLOTS; slot++) {
                if (table.holds(slot)) {
                    slots.insert(placeFor(slot), entries, slot);
                    entries++;
                }
            }
            fillLeaves();
        }

        void fillLeaves() {
            leaves = 0;
            for (int first = 0; first < entries && room > 0; first += room) {
                sizes.put(leaves, Math.min(room, entries - first));
                leaves++;
            }
        }

        void entryComes(int slot) {
            int place = placeFor(slot);
            int leaf = leafFor(place);
            slots.insert(place, entries, slot);
            entries++;
            if (leaves == 0) {
                sizes.put(0, 0);
                leaves = 1;
            }
            sizes.raise(leaf, 1);
            if (sizes.at(leaf) > room) {
                cut(leaf);
            }
        }

        void entryGoes(int slot) {
            int place = slots.placeOf(slot, entries);
            if (place == NONE) {
                return;
            }
            int leaf = leafAt(place);
            slots.remove(place, entries);
            entries--;
            sizes.raise(leaf, -1);
            if (sizes.at(leaf) == 0) {
                sizes.remove(leaf, leaves);
                leaves--;
            }
        }

        private void cut(int leaf) {
            int all = sizes.at(leaf);
            int stay = roundedUp(all, 2);
            sizes.put(leaf, stay);
            sizes.insert(leaf + 1, leaves, all - stay);
            leaves++;
            cuts++;
        }

        /** The leaf of the entry at a place. */
        private int leafAt(int place) {
            int first = 0;
            for (int leaf = 0; leaf < leaves; leaf++) {
                first += sizes.at(leaf);
                if (place < first) {
                    return leaf;
                }
            }
            return 0;
        }

        /** The leaf into which an entry comes: what stands at places below its own is ahead of it. */
        private int leafFor(int place) {
            return place > 0 ? leafAt(place - 1) : 0;
        }

        private int placeFor(int slot) {
            int place = 0;
            while (place < entries && isAhead(slots.at(place), slot)) {
                place++;
            }
            return place;
        }

        private boolean isAhead(int one, int other) {
            for (int i = 0; i < width; i++) {
                int column = along.at(i);
                int v = table.number(one, column);
                int w = table.number(other, column);
                if (v != w) {
                    return v < w;
                }
            }
            return one < other;
        }

        /** The columns that make the run of a question along the key. */
        int runColumns(Question question) {
            int run = 0;
            for (int i = 0; i < width; i++) {
                int column = along.at(i);
                if (!question.isBound(column)) {
                    break;
                }
                run = with(run, column);
                if (!question.isFixed(column)) {
                    break;
                }
            }
            return run;
        }

        /** How many leaves are looked at for a run; a run without entries costs one all the same. */
        int leavesOf(long run) {
            int found = 0;
            int place = 0;
            for (int leaf = 0; leaf < leaves; leaf++) {
                int end = place + sizes.at(leaf);
                if (hasSome(run, place, end)) {
                    found++;
                }
                place = end;
            }
            return found == 0 && leaves > 0 ? 1 : found;
        }

        private boolean hasSome(long run, int from, int end) {
            for (int place = from; place < end; place++) {
                if (hasSlot(run, slots.at(place))) {
                    return true;
                }
            }
            return false;
        }

        boolean covers(Question question) {
            return (question.usedColumns() & ~columns) == 0;
        }

        /** Whether the run stands already as the question is sorted. */
        boolean sortsFor(Question question) {
            for (int i = 0; i < width; i++) {
                int column = along.at(i);
                if (!question.isFixed(column)) {
                    return column == question.sortColumn();
                }
            }
            return false;
        }
    }

    /** All orders ever told, by number. */
    private static final class Orders {
        private final Table table;
        private final Order[] list = new Order[ORDERS];
        private int told;

        Orders(Table table) {
            this.table = table;
        }

        int told() {
            return told;
        }

        /** null: no order has that number, or it is dropped. */
        Order kept(int number) {
            if (number < 0 || number >= list.length) {
                return null;
            }
            Order order = list[number];
            return order == null || order.isDropped() ? null : order;
        }

        boolean haveKey(int key) {
            for (int i = 0; i < told; i++) {
                Order order = kept(i);
                if (order != null && order.key() == key) {
                    return true;
                }
            }
            return false;
        }

        int tell(int key) {
            int number = told;
            if (number < 0 || number >= list.length) {
                return FULL;
            }
            Order order = new Order(table, key);
            order.rebuild();
            list[number] = order;
            told++;
            return number;
        }

        void entriesGo(int slot) {
            for (int i = 0; i < told; i++) {
                Order order = kept(i);
                if (order != null) {
                    order.entryGoes(slot);
                }
            }
        }

        void entriesCome(int slot) {
            for (int i = 0; i < told; i++) {
                Order order = kept(i);
                if (order != null) {
                    order.entryComes(slot);
                }
            }
        }

        void rebuild() {
            for (int i = 0; i < told; i++) {
                Order order = kept(i);
                if (order != null) {
                    order.rebuild();
                }
            }
        }

        int keptSet() {
            int set = 0;
            for (int i = 0; i < told; i++) {
                if (kept(i) != null) {
                    set = with(set, i);
                }
            }
            return set;
        }

        int sizesOf(int set) {
            int sum = 0;
            for (int i = 0; i < told; i++) {
                Order order = has(set, i) ? kept(i) : null;
                if (order != null) {
                    sum += order.size();
                }
            }
            return sum;
        }

        /** What upkeep is paid for: height and 2 of each. */
        int burdenOf(int set) {
            int sum = 0;
            for (int i = 0; i < told; i++) {
                Order order = has(set, i) ? kept(i) : null;
                if (order != null) {
                    sum += order.height() + 2;
                }
            }
            return sum;
        }
    }

    /** One question: bounds of each column, what is shown, by what it is sorted, and its weight. */
    private static final class Question {
        private final Numbers leasts = new Numbers(COLUMNS);
        private final Numbers greatests = new Numbers(COLUMNS);
        private int bound;
        private int fixed;
        private int shown;
        private int sortColumn;
        private int heft;

        void clear() {
            for (int column = 0; column < COLUMNS; column++) {
                leasts.put(column, 0);
                greatests.put(column, GREATEST);
            }
            bound = 0;
            fixed = 0;
            shown = 0;
            sortColumn = NONE;
            heft = 1;
        }

        /** A condition on a column lets nothing but least to greatest. */
        void narrow(int column, int least, int greatest) {
            int from = Math.max(leasts.at(column), least);
            int to = Math.min(greatests.at(column), greatest);
            leasts.put(column, from);
            greatests.put(column, to);
            bound = from != 0 || to != GREATEST ? with(bound, column) : without(bound, column);
            fixed = from == to ? with(fixed, column) : without(fixed, column);
        }

        boolean shows(int column) {
            return has(shown, column);
        }

        void show(int column) {
            shown = with(shown, column);
        }

        void sortBy(int column) {
            sortColumn = column;
        }

        int sortColumn() {
            return sortColumn;
        }

        int heft() {
            return heft;
        }

        void weigh(int v) {
            heft = v;
        }

        int least(int column) {
            return leasts.at(column);
        }

        int greatest(int column) {
            return greatests.at(column);
        }

        boolean letsNone(int column) {
            return least(column) > greatest(column);
        }

        boolean isFixed(int column) {
            return has(fixed, column);
        }

        boolean isBound(int column) {
            return has(bound, column);
        }

        /** The columns that a way must see: bound, shown, or sorted by. */
        int usedColumns() {
            int used = bound | shown;
            return sortColumn == NONE ? used : with(used, sortColumn);
        }

        /** Whether its answer must be sorted, unless the way brings it so. */
        boolean mustSort() {
            return sortColumn != NONE && !isFixed(sortColumn);
        }

        /** The slots of the rows within the bounds of some columns. */
        long rowsWithin(Table table, int columns) {
            long rows = table.taken();
            for (int column = 0; column < COLUMNS; column++) {
                if (has(columns & bound, column)) {
                    rows &= table.rowsWithin(column, least(column), greatest(column));
                }
            }
            return rows;
        }

        /** The slot of the i-th row of the answer. */
        int placed(Table table, int i) {
            long rows = rowsWithin(table, ALL_COLUMNS);
            for (int slot = 0; slot < SLOTS; slot++) {
                if (hasSlot(rows, slot) && rowsAhead(table, rows, slot) == i) {
                    return slot;
                }
            }
            return NONE;
        }

        private int rowsAhead(Table table, long rows, int slot) {
            int v = sortNumber(table, slot);
            int ahead = 0;
            for (int other = 0; other < SLOTS; other++) {
                int w = sortNumber(table, other);
                if (hasSlot(rows, other) && (w < v || (w == v && other < slot))) {
                    ahead++;
                }
            }
            return ahead;
        }

        private int sortNumber(Table table, int slot) {
            return sortColumn == NONE ? 0 : table.number(slot, sortColumn);
        }
    }

    /** The page that letters come on, read as a question: every state can still be led to an end. */
    private static final class Sheet {
        private static final int START = 0;
        private static final int CONDITION = 1;
        private static final int SIGN = 2;
        private static final int DIGIT = 3;
        private static final int DIGIT_OR_END = 4;
        private static final int END_OF_CONDITION = 5;
        private static final int FIRST_SHOWN = 6;
        private static final int MORE_SHOWN = 7;
        private static final int SORT = 8;
        private static final int END = 9;

        private final Numbers codes = new Numbers(LETTERS);
        private int length;
        private Question draft = new Question();
        private int state;
        private int column;
        private int sign;
        private int number;

        int length() {
            return length;
        }

        int letterAt(int i) {
            return codes.at(i);
        }

        void write(int code) {
            codes.put(length, code);
            length++;
        }

        void clear() {
            length = 0;
        }

        /** How many letters begin some question; these are drafted. */
        int read() {
            draft.clear();
            state = START;
            int taken = 0;
            while (taken < length && takes(codes.at(taken))) {
                taken++;
            }
            return taken;
        }

        /** Whether what was read is a question, not the beginning of one alone. */
        boolean isWhole() {
            return state == MORE_SHOWN || state == END;
        }

        /** The question that was read; it is the caller's from now on. */
        Question handOver() {
            Question read = draft;
            draft = new Question();
            return read;
        }

        private boolean takes(int code) {
            switch (state) {
                case START:
                    return code == ':' ? moves(FIRST_SHOWN) : takesColumn(code);
                case CONDITION:
                    return takesColumn(code);
                case SIGN:
                    return takesSign(code);
                case DIGIT:
                    return takesDigit(code, 0, DIGIT_OR_END);
                case DIGIT_OR_END:
                    return takesDigit(code, 10 * number, END_OF_CONDITION) || endsCondition(code);
                case END_OF_CONDITION:
                    return endsCondition(code);
                case FIRST_SHOWN:
                    return takesShown(code);
                case MORE_SHOWN:
                    return code == '/' ? moves(SORT) : takesShown(code);
                case SORT:
                    return takesSort(code);
                default:
                    return false;
            }
        }

        private boolean moves(int to) {
            state = to;
            return true;
        }

        private static boolean isLetter(int code) {
            return code >= 'a' && code <= 'd';
        }

        private boolean takesColumn(int code) {
            if (!isLetter(code)) {
                return false;
            }
            column = code - 'a';
            return moves(SIGN);
        }

        private boolean takesSign(int code) {
            if (code != '<' && code != '=' && code != '>') {
                return false;
            }
            sign = code;
            return moves(DIGIT);
        }

        private boolean takesDigit(int code, int begun, int then) {
            if (code < '0' || code > '9') {
                return false;
            }
            number = begun + code - '0';
            return moves(then);
        }

        private boolean endsCondition(int code) {
            if (code != '&' && code != ':') {
                return false;
            }
            if (sign == '<') {
                draft.narrow(column, 0, number - 1);
            } else if (sign == '>') {
                draft.narrow(column, number + 1, GREATEST);
            } else {
                draft.narrow(column, number, number);
            }
            return moves(code == '&' ? CONDITION : FIRST_SHOWN);
        }

        private boolean takesShown(int code) {
            if (!isLetter(code) || draft.shows(code - 'a')) {
                return false;
            }
            draft.show(code - 'a');
            return moves(MORE_SHOWN);
        }

        private boolean takesSort(int code) {
            if (!isLetter(code)) {
                return false;
            }
            draft.sortBy(code - 'a');
            return moves(END);
        }
    }

    /** All ways to answer the question that was listed last, by number, with their looks. */
    private static final class Ways {
        private final Table table;
        private final Orders orders;
        private final Numbers numbers = new Numbers(WAYS);
        private final Numbers sets = new Numbers(WAYS);
        private final Numbers costs = new Numbers(WAYS);
        private final Numbers reaches = new Numbers(ORDERS);
        private final long[] left = new long[ORDERS];
        private int listed;

        Ways(Table table, Orders orders) {
            this.table = table;
            this.orders = orders;
        }

        void list(Question question) {
            int sorting = 0;
            if (question.mustSort()) {
                sorting = Long.bitCount(question.rowsWithin(table, ALL_COLUMNS));
            }
            listed = 0;
            add(0, 0, table.fullPages() + sorting);
            for (int o = 0; o < ORDERS; o++) {
                listAlone(question, o, sorting);
            }
            for (int o = 0; o < ORDERS; o++) {
                for (int p = o + 1; p < ORDERS; p++) {
                    listBoth(o, p, sorting);
                }
            }
        }

        private void listAlone(Question question, int o, int sorting) {
            Order order = orders.kept(o);
            if (order == null || o < 0 || o >= left.length) {
                return;
            }
            left[o] = question.rowsWithin(table, order.columns());
            long run = question.rowsWithin(table, order.runColumns(question));
            int looks = order.height() + order.leavesOf(run);
            reaches.put(o, looks);
            if (!order.covers(question)) {
                looks += table.pagesOf(left[o]);
            }
            add(1 + o, with(0, o), looks + (order.sortsFor(question) ? 0 : sorting));
        }

        private void listBoth(int o, int p, int sorting) {
            if (orders.kept(o) == null || orders.kept(p) == null) {
                return;
            }
            int looks = reaches.at(o) + reaches.at(p) + table.pagesOf(leftBy(o) & leftBy(p));
            add(100 + 10 * o + p, with(with(0, o), p), looks + sorting);
        }

        /** The slots that an order leaves of its run. */
        private long leftBy(int o) {
            return o >= 0 && o < left.length ? left[o] : 0L;
        }

        private void add(int number, int set, int cost) {
            numbers.put(listed, number);
            sets.put(listed, set);
            costs.put(listed, cost);
            listed++;
        }

        int placeOf(int number) {
            return numbers.placeOf(number, listed);
        }

        int numberAt(int place) {
            return numbers.at(place);
        }

        int costAt(int place) {
            return costs.at(place);
        }

        /** The place of the best way for a set of orders: ways are listed by number, so the first of like ones. */
        int bestPlace(int set) {
            int found = 0;
            for (int i = 1; i < listed; i++) {
                if ((sets.at(i) & ~set) == 0 && costs.at(i) < costs.at(found)) {
                    found = i;
                }
            }
            return found;
        }

        /** Puts down for every set at once the looks of its best way. */
        void fewestOfAll(Numbers fewest) {
            for (int set = 0; set < SETS; set++) {
                fewest.put(set, costs.at(0));
            }
            for (int i = 1; i < listed; i++) {
                fewest.put(sets.at(i), Math.min(costs.at(0), costs.at(i)));
            }
            for (int o = 0; o < ORDERS; o++) {
                for (int set = 0; set < SETS; set++) {
                    fewest.put(set, Math.min(fewest.at(set), fewest.at(without(set, o))));
                }
            }
        }
    }

    /** The questions with their weights, upkeep, and the sets of orders that are chosen for them. */
    private static final class Workload {
        private final Orders orders;
        private final Ways ways;
        private final Question[] questions = new Question[QUESTIONS];
        private final Numbers works = new Numbers(SETS);
        private final Numbers fewest = new Numbers(SETS);
        private final Numbers stepped = new Numbers(ORDERS);
        private int asked;
        private int steppedCount;
        private int upkeepNow;

        Workload(Orders orders, Ways ways) {
            this.orders = orders;
            this.ways = ways;
        }

        int asked() {
            return asked;
        }

        /** null: no question has that number. */
        Question question(int number) {
            return number >= 0 && number < questions.length ? questions[number] : null;
        }

        int add(Question question) {
            int number = asked;
            if (number < 0 || number >= questions.length) {
                return FULL;
            }
            questions[number] = question;
            asked++;
            return number;
        }

        int upkeepNow() {
            return upkeepNow;
        }

        void setUpkeep(int v) {
            upkeepNow = v;
        }

        int workOf(int set) {
            int sum = upkeepNow * orders.burdenOf(set);
            for (int i = 0; i < asked; i++) {
                Question question = question(i);
                if (question != null) {
                    ways.list(question);
                    sum += question.heft() * ways.costAt(ways.bestPlace(set));
                }
            }
            return sum;
        }

        /** The best set within space; the work of all sets is worked out for it. */
        int bestSet(int space) {
            workOutAll();
            int kept = orders.keptSet();
            int found = 0;
            for (int set = 1; set < SETS; set++) {
                if ((set & ~kept) == 0 && orders.sizesOf(set) <= space && isBetter(set, found)) {
                    found = set;
                }
            }
            return found;
        }

        /** The set that is got step by step within space; the work of all sets is worked out for it. */
        int stepByStep(int space) {
            workOutAll();
            steppedCount = 0;
            int set = 0;
            for (int i = 0; i < ORDERS; i++) {
                int next = nextStep(set, space);
                if (next == NONE) {
                    break;
                }
                stepped.put(steppedCount, next);
                steppedCount++;
                set = with(set, next);
            }
            return set;
        }

        int stepAt(int i) {
            return i >= 0 && i < steppedCount ? stepped.at(i) : NONE;
        }

        /** The work of a set, as it was worked out last. */
        int workedOut(int set) {
            return works.at(set);
        }

        private void workOutAll() {
            for (int set = 0; set < SETS; set++) {
                works.put(set, upkeepNow * orders.burdenOf(set));
            }
            for (int i = 0; i < asked; i++) {
                Question question = question(i);
                if (question == null) {
                    continue;
                }
                ways.list(question);
                ways.fewestOfAll(fewest);
                for (int set = 0; set < SETS; set++) {
                    works.raise(set, question.heft() * fewest.at(set));
                }
            }
        }

        private boolean isBetter(int set, int than) {
            if (works.at(set) != works.at(than)) {
                return works.at(set) < works.at(than);
            }
            return orders.sizesOf(set) < orders.sizesOf(than);
        }

        private int nextStep(int set, int space) {
            int next = NONE;
            int least = works.at(set);
            for (int o = 0; o < ORDERS; o++) {
                int larger = with(set, o);
                boolean goesIn = larger != set && orders.kept(o) != null && orders.sizesOf(larger) <= space;
                if (goesIn && works.at(larger) < least) {
                    least = works.at(larger);
                    next = o;
                }
            }
            return next;
        }
    }

    /** A column's numbers as they were, in four parts. */
    private static final class Picture {
        private final Numbers counts = new Numbers(PARTS);
        private final Numbers leasts = new Numbers(PARTS);
        private final Numbers greatests = new Numbers(PARTS);
        private boolean taken;

        boolean isTaken() {
            return taken;
        }

        int partCount(int i) {
            return counts.at(i);
        }

        int partLeast(int i) {
            return leasts.at(i);
        }

        int partGreatest(int i) {
            return greatests.at(i);
        }

        /** Of n sorted numbers; how many parts have any. */
        int take(Numbers sorted, int n) {
            taken = true;
            int some = 0;
            for (int i = 0; i < PARTS; i++) {
                int first = quotient(i * n, PARTS);
                int end = quotient((i + 1) * n, PARTS);
                counts.put(i, end - first);
                if (end > first) {
                    leasts.put(i, sorted.at(first));
                    greatests.put(i, sorted.at(end - 1));
                    some++;
                }
            }
            return some;
        }

        int surelyWithin(int least, int greatest) {
            int sum = 0;
            for (int i = 0; i < PARTS; i++) {
                if (leasts.at(i) >= least && greatests.at(i) <= greatest) {
                    sum += counts.at(i);
                }
            }
            return sum;
        }

        int perhapsWithin(int least, int greatest) {
            int sum = 0;
            for (int i = 0; i < PARTS; i++) {
                if (shared(i, least, greatest) > 0) {
                    sum += counts.at(i);
                }
            }
            return sum;
        }

        int likelyWithin(int least, int greatest) {
            int sum = 0;
            for (int i = 0; i < PARTS; i++) {
                int span = greatests.at(i) - leasts.at(i) + 1;
                sum += quotient(counts.at(i) * shared(i, least, greatest), span);
            }
            return sum;
        }

        /** How many numbers from a part's least to its greatest lie within. */
        private int shared(int i, int least, int greatest) {
            int from = Math.max(leasts.at(i), least);
            int to = Math.min(greatests.at(i), greatest);
            return Math.max(0, to - from + 1);
        }
    }

    /** The pictures of all columns, how many rows there were at the latest one, and looks as they foretell them. */
    private static final class Pictures {
        private final Table table;
        private final Orders orders;
        private final Picture[] list = new Picture[COLUMNS];
        private final Numbers sorted = new Numbers(SLOTS);
        private int rows;

        Pictures(Table table, Orders orders) {
            this.table = table;
            this.orders = orders;
            for (int column = 0; column < list.length; column++) {
                list[column] = new Picture();
            }
        }

        /** null: there is no such column. */
        Picture of(int column) {
            return column >= 0 && column < list.length ? list[column] : null;
        }

        /** How many parts of the column's new picture have any. */
        int take(int column) {
            Picture picture = of(column);
            if (picture == null) {
                return UNKNOWN;
            }
            int n = 0;
            for (int slot = 0; slot < SLOTS; slot++) {
                if (table.holds(slot)) {
                    int v = table.number(slot, column);
                    sorted.insert(placeFor(v, n), n, v);
                    n++;
                }
            }
            rows = n;
            return picture.take(sorted, n);
        }

        private int placeFor(int v, int n) {
            int place = 0;
            while (place < n && sorted.at(place) <= v) {
                place++;
            }
            return place;
        }

        /** Likely rows of a question, by its bounds of some columns alone. */
        int likelyRows(Question question, int columns) {
            int found = rows;
            for (int column = 0; column < COLUMNS; column++) {
                Picture picture = of(column);
                if (picture != null && picture.isTaken() && has(columns, column) && question.isBound(column)) {
                    int within = picture.likelyWithin(question.least(column), question.greatest(column));
                    found = quotient(found * within, rows);
                }
            }
            return found;
        }

        int looksByTable(Question question) {
            return table.fullPages() + looksForSorting(question);
        }

        int looksByOrder(Question question, Order order) {
            int run = likelyRows(question, order.runColumns(question));
            int looks = order.height() + Math.max(1, roundedUp(run, order.room()));
            if (!order.covers(question)) {
                looks += Math.min(table.fullPages(), likelyRows(question, order.columns()));
            }
            return looks + (order.sortsFor(question) ? 0 : looksForSorting(question));
        }

        int chosenWay(Question question) {
            int way = 0;
            int fewest = looksByTable(question);
            for (int o = 0; o < ORDERS; o++) {
                Order order = orders.kept(o);
                int looks = order == null ? fewest : looksByOrder(question, order);
                if (looks < fewest) {
                    fewest = looks;
                    way = 1 + o;
                }
            }
            return way;
        }

        private int looksForSorting(Question question) {
            return question.mustSort() ? likelyRows(question, ALL_COLUMNS) : 0;
        }
    }

    /** The rows as they were at each mark: tables of which nothing but the rows is used. */
    private static final class Marks {
        private final Table[] list = new Table[MARKS];
        private int marked;

        Marks() {
            for (int i = 0; i < list.length; i++) {
                list[i] = new Table();
            }
        }

        int marked() {
            return marked;
        }

        /** null: there is no such mark. */
        Table numbered(int mark) {
            return mark >= 0 && mark < marked && mark < list.length ? list[mark] : null;
        }

        /** How many marks there are with it. */
        int keep(Table table) {
            Table kept = marked >= 0 && marked < list.length ? list[marked] : null;
            if (kept == null) {
                return FULL;
            }
            kept.takeRowsOf(table);
            marked++;
            return marked;
        }

        void forgetBehind(int mark) {
            marked = mark + 1;
        }
    }
}
