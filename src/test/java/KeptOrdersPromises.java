/** For each promise of the document: ordinary calls, the edges that it names, and wrong inputs; all values are worked out by hand. */
public final class KeptOrdersPromises {
    private static final int NONE = -1, UNKNOWN = -101, OUTSIDE = -102, STATE = -103, FULL = -104;
    private static final int LOW = Integer.MIN_VALUE, HIGH = Integer.MAX_VALUE;
    private static int wrong = 0;
    private static int checked = 0;

    public static void main(String[] args) {
        newObject();
        row();
        set();
        setInOrders();
        drop();
        fill();
        get();
        wide();
        order();
        orderOfEntries();
        lose();
        pack();
        about();
        entriesComeAndGo();
        entryAndLeaf();
        letters();
        blank();
        good();
        ask();
        askBehindARefusedText();
        bound();
        weight();
        answersAndAnswer();
        looksByTable();
        looksByOrder();
        looksByBoth();
        looksForSorting();
        looksWhereNothingIs();
        looksRefused();
        run();
        best();
        work();
        upkeep();
        choose();
        chooseOfLikeOnes();
        chooseTimes();
        steps();
        stepsOfLikeOnes();
        allStepsCome();
        worth();
        picture();
        part();
        foretold();
        likely();
        likelyFromAToD();
        guess();
        chosen();
        regret();
        mark();
        back();
        count();
        digest();
        constants();
        System.out.println(wrong == 0 ? checked + " answers are as due" : wrong + " of " + checked + " answers are not as due");
        if (wrong != 0) {
            System.exit(1);
        }
    }

    private static void due(int promise, String call, long got, long want) {
        checked++;
        if (got != want) {
            wrong++;
            System.out.println("promise " + promise + ": " + call + " answered " + got + ", due is " + want);
        }
    }

    private static void same(int promise, KeptOrders x, long before) {
        due(promise, "digest() behind refusals", x.digest(), before);
    }

    private static void write(KeptOrders x, String text) {
        for (int from = 0; from < text.length(); from += 8) {
            long w = 0;
            for (int i = Math.min(text.length(), from + 8) - 1; i >= from; i--) {
                w = w << 8 | text.charAt(i);
            }
            x.letters(w);
        }
    }

    private static int asked(KeptOrders x, String text) {
        write(x, text);
        return x.ask();
    }

    /** Slots 0 to 11: a is 0 0 0 1 1 1 .. 3 3 3, b is 0 1 2 0 1 2 .., c is the slot, d is 50; three pages. */
    private static KeptOrders twelve() {
        KeptOrders x = new KeptOrders();
        for (int s = 0; s < 12; s++) {
            x.row(s / 3, s % 3, s, 50);
        }
        return x;
    }

    /** The same with orders 0 a, 1 b, 2 ba, 3 abc, 4 c; of sizes 3, 3, 4, 5, 3. */
    private static KeptOrders ordered() {
        KeptOrders x = twelve();
        x.order(1);
        x.order(2);
        x.order(11);
        x.order(38);
        x.order(3);
        return x;
    }

    private static void newObject() {
        KeptOrders x = new KeptOrders();
        for (int what = 0; what < 9; what++) {
            due(1, "count(" + what + ")", x.count(what), 0);
        }
        for (int s = 0; s < 64; s++) {
            due(1, "get(" + s + ", 0)", x.get(s, 0), NONE);
        }
        due(1, "wide(4)", x.wide(4), 4);
        due(1, "upkeep(0)", x.upkeep(0), 0);
        due(1, "work(255)", x.work(255), 0);
        due(1, "choose(0, 0)", x.choose(0, 0), 0);
        due(1, "part(0, 0, 0)", x.part(0, 0, 0), NONE);
        due(1, "about(0, 0)", x.about(0, 0), UNKNOWN);
        due(1, "answers(0)", x.answers(0), UNKNOWN);
        due(1, "back(0)", x.back(0), UNKNOWN);
        due(1, "good()", x.good(), 0);
        KeptOrders other = new KeptOrders();
        x.row(1, 1, 1, 1);
        due(1, "count(0) of another one", other.count(0), 0);
    }

    private static void row() {
        KeptOrders x = new KeptOrders();
        due(2, "row(1, 2, 3, 4)", x.row(1, 2, 3, 4), 0);
        due(2, "row(0, 0, 0, 0)", x.row(0, 0, 0, 0), 1);
        due(2, "row(99, 99, 99, 99)", x.row(99, 99, 99, 99), 2);
        for (int c = 0; c < 4; c++) {
            due(2, "get(0, " + c + ")", x.get(0, c), c + 1);
        }
        x.drop(1);
        due(2, "row into a gap", x.row(5, 6, 7, 8), 1);
        due(2, "row behind", x.row(5, 6, 7, 8), 3);
        long before = x.digest();
        due(2, "row(-1, 0, 0, 0)", x.row(-1, 0, 0, 0), OUTSIDE);
        due(2, "row(0, -1, 0, 0)", x.row(0, -1, 0, 0), OUTSIDE);
        due(2, "row(0, 0, -1, 0)", x.row(0, 0, -1, 0), OUTSIDE);
        due(2, "row(0, 0, 0, -1)", x.row(0, 0, 0, -1), OUTSIDE);
        due(2, "row(100, 0, 0, 0)", x.row(100, 0, 0, 0), OUTSIDE);
        due(2, "row(0, 100, 0, 0)", x.row(0, 100, 0, 0), OUTSIDE);
        due(2, "row(0, 0, 100, 0)", x.row(0, 0, 100, 0), OUTSIDE);
        due(2, "row(0, 0, 0, 100)", x.row(0, 0, 0, 100), OUTSIDE);
        due(2, "row(HIGH, LOW, 0, 0)", x.row(HIGH, LOW, 0, 0), OUTSIDE);
        same(2, x, before);
        for (int s = 4; s < 64; s++) {
            due(2, "row to " + s, x.row(1, 1, 1, 1), s);
        }
        before = x.digest();
        due(2, "row on a full table", x.row(1, 1, 1, 1), FULL);
        due(2, "a wrong row on a full table", x.row(1, 1, 1, 100), OUTSIDE);
        same(2, x, before);
    }

    private static void set() {
        KeptOrders x = new KeptOrders();
        x.row(1, 2, 3, 4);
        due(3, "set(0, 0, 99)", x.set(0, 0, 99), 1);
        due(3, "set(0, 3, 0)", x.set(0, 3, 0), 4);
        due(3, "set(0, 0, 7)", x.set(0, 0, 7), 99);
        due(3, "get(0, 0)", x.get(0, 0), 7);
        due(3, "get(0, 1)", x.get(0, 1), 2);
        due(3, "get(0, 3)", x.get(0, 3), 0);
        long before = x.digest();
        due(3, "set(1, 0, 1)", x.set(1, 0, 1), UNKNOWN);
        due(3, "set(-1, 0, 1)", x.set(-1, 0, 1), UNKNOWN);
        due(3, "set(64, 0, 1)", x.set(64, 0, 1), UNKNOWN);
        due(3, "set(0, -1, 1)", x.set(0, -1, 1), UNKNOWN);
        due(3, "set(0, 4, 1)", x.set(0, 4, 1), UNKNOWN);
        due(3, "set(0, 0, -1)", x.set(0, 0, -1), OUTSIDE);
        due(3, "set(0, 0, 100)", x.set(0, 0, 100), OUTSIDE);
        due(3, "set(0, 4, 100)", x.set(0, 4, 100), UNKNOWN);
        due(3, "set(1, 0, 100)", x.set(1, 0, 100), UNKNOWN);
        same(3, x, before);
    }

    private static void setInOrders() {
        // leaves 6 and 1: the last entry goes, its leaf with it, and it comes into the first, which is cut
        for (int column = 0; column < 4; column++) {
            KeptOrders x = new KeptOrders();
            for (int i = 0; i < 7; i++) {
                x.row(i, 1, 1, 1);
            }
            x.order(1);
            due(3, "leaf(0, 1)", x.leaf(0, 1), 1);
            x.set(6, column, column == 0 ? 6 : 1);
            due(3, "leaf(0, 0) behind set", x.leaf(0, 0), 4);
            due(3, "leaf(0, 1) behind set", x.leaf(0, 1), 3);
            due(3, "about(0, 4) behind set", x.about(0, 4), 1);
            due(3, "entry(0, 6) behind set", x.entry(0, 6), 6);
        }
        KeptOrders x = new KeptOrders();
        x.row(5, 5, 0, 0);
        x.row(6, 4, 0, 0);
        x.order(1);
        x.order(2);
        due(3, "entry(0, 0)", x.entry(0, 0), 0);
        due(3, "entry(1, 0)", x.entry(1, 0), 1);
        x.set(0, 0, 7);
        due(3, "entry(0, 0) then", x.entry(0, 0), 1);
        due(3, "entry(1, 0) then", x.entry(1, 0), 1);
        x.lose(0);
        x.set(0, 1, 1);
        due(3, "entry(1, 0) at last", x.entry(1, 0), 0);
    }

    private static void drop() {
        KeptOrders x = twelve();
        x.order(1);
        due(4, "drop(0)", x.drop(0), 11);
        due(4, "drop(11)", x.drop(11), 10);
        due(4, "get(0, 0)", x.get(0, 0), NONE);
        due(4, "entry(0, 0)", x.entry(0, 0), 1);
        due(4, "entry(0, 9)", x.entry(0, 9), 10);
        due(4, "entry(0, 10)", x.entry(0, 10), NONE);
        long before = x.digest();
        due(4, "drop(0) again", x.drop(0), UNKNOWN);
        due(4, "drop(-1)", x.drop(-1), UNKNOWN);
        due(4, "drop(64)", x.drop(64), UNKNOWN);
        due(4, "drop(12)", x.drop(12), UNKNOWN);
        same(4, x, before);
        KeptOrders last = new KeptOrders();
        for (int s = 0; s < 64; s++) {
            last.row(s, 0, 0, 0);
        }
        due(4, "drop(63)", last.drop(63), 63);
        due(4, "row behind drop(63)", last.row(0, 0, 0, 0), 63);
    }

    private static void fill() {
        KeptOrders x = new KeptOrders();
        // 16838 5758 10113 17515, 31051 5627 23010 7419 are the first of seed 1
        due(5, "fill(1, 2, 100)", x.fill(1, 2, 100), 2);
        int[] want = {38, 58, 13, 15, 51, 27, 10, 19};
        for (int i = 0; i < 8; i++) {
            due(5, "get(" + i / 4 + ", " + i % 4 + ")", x.get(i / 4, i % 4), want[i]);
        }
        x.drop(0);
        due(5, "fill(1, 1, 7)", x.fill(1, 1, 7), 1);
        due(5, "get(0, 0) modulo 7", x.get(0, 0), 16838 % 7);
        due(5, "get(0, 3) modulo 7", x.get(0, 3), 17515 % 7);
        due(5, "fill(0, 1, 1)", x.fill(0, 1, 1), 1);
        due(5, "get(2, 2)", x.get(2, 2), 0);
        // 1103515245 times 2147483647 and 12345 is 1043980748 in 31 figures, and 15929 by 65536
        due(5, "fill(2147483647, 1, 100)", x.fill(2147483647, 1, 100), 1);
        due(5, "get(3, 0)", x.get(3, 0), 29);
        long before = x.digest();
        due(5, "fill(-1, 1, 1)", x.fill(-1, 1, 1), OUTSIDE);
        due(5, "fill(LOW, 1, 1)", x.fill(LOW, 1, 1), OUTSIDE);
        due(5, "fill(1, 0, 1)", x.fill(1, 0, 1), OUTSIDE);
        due(5, "fill(1, 65, 1)", x.fill(1, 65, 1), OUTSIDE);
        due(5, "fill(1, 1, 0)", x.fill(1, 1, 0), OUTSIDE);
        due(5, "fill(1, 1, 101)", x.fill(1, 1, 101), OUTSIDE);
        due(5, "fill(1, -5, -5)", x.fill(1, -5, -5), OUTSIDE);
        same(5, x, before);
        due(5, "fill(3, 64, 100)", x.fill(3, 64, 100), 60);
        due(5, "fill(3, 64, 100) again", x.fill(3, 64, 100), 0);
        due(5, "fill(3, 65, 100) when full", x.fill(3, 65, 100), OUTSIDE);
        KeptOrders y = new KeptOrders();
        y.order(1);
        due(5, "fill(1, 64, 100)", y.fill(1, 64, 100), 64);
        due(5, "entry(0, 63) is there", y.entry(0, 63) >= 0 ? 1 : 0, 1);
        due(5, "about(0, 4) has cuts", y.about(0, 4) > 0 ? 1 : 0, 1);
    }

    private static void get() {
        KeptOrders x = new KeptOrders();
        x.row(1, 2, 3, 99);
        due(6, "get(0, 0)", x.get(0, 0), 1);
        due(6, "get(0, 3)", x.get(0, 3), 99);
        due(6, "get(1, 0)", x.get(1, 0), NONE);
        due(6, "get(63, 3)", x.get(63, 3), NONE);
        due(6, "get(-1, 0)", x.get(-1, 0), UNKNOWN);
        due(6, "get(64, 0)", x.get(64, 0), UNKNOWN);
        due(6, "get(0, -1)", x.get(0, -1), UNKNOWN);
        due(6, "get(0, 4)", x.get(0, 4), UNKNOWN);
        due(6, "get(1, 4)", x.get(1, 4), UNKNOWN);
        due(6, "get(HIGH, LOW)", x.get(HIGH, LOW), UNKNOWN);
    }

    private static void wide() {
        KeptOrders x = new KeptOrders();
        x.fill(1, 64, 100);
        int[] pages = {32, 22, 16, 13, 11, 10, 8};
        due(7, "wide(2)", x.wide(2), 4);
        for (int v = 2; v <= 8; v++) {
            due(7, "wide(" + v + ")", x.wide(v), v == 2 ? 2 : v - 1);
            due(7, "count(1) at " + v, x.count(1), pages[v - 2]);
        }
        long before = x.digest();
        due(7, "wide(1)", x.wide(1), OUTSIDE);
        due(7, "wide(9)", x.wide(9), OUTSIDE);
        due(7, "wide(0)", x.wide(0), OUTSIDE);
        due(7, "wide(LOW)", x.wide(LOW), OUTSIDE);
        due(7, "wide(HIGH)", x.wide(HIGH), OUTSIDE);
        same(7, x, before);
        due(7, "wide(8)", x.wide(8), 8);
    }

    private static void order() {
        int keys = 0;
        for (int key = -10; key <= 140; key++) {
            int told = new KeptOrders().order(key);
            due(8, "order(" + key + ") is a number or OUTSIDE", told == 0 || told == OUTSIDE ? 1 : 0, 1);
            keys += told == 0 ? 1 : 0;
        }
        due(8, "how many keys there are", keys, 4 + 4 * 3 + 4 * 3 * 2);
        KeptOrders x = new KeptOrders();
        int[] good = {1, 4, 7, 23, 38, 117};
        for (int i = 0; i < good.length; i++) {
            due(8, "order(" + good[i] + ")", x.order(good[i]), i);
        }
        long before = x.digest();
        int[] bad = {0, -1, LOW, 5, 10, 20, 6, 12, 24, 25, 26, 30, 31, 35, 36, 33, 124, 125, 129, 500, HIGH};
        for (int key : bad) {
            due(8, "order(" + key + ")", x.order(key), OUTSIDE);
        }
        due(8, "order(7) again", x.order(7), STATE);
        due(8, "order(1) again", x.order(1), STATE);
        due(8, "order(117) again", x.order(117), STATE);
        same(8, x, before);
        due(8, "order(11)", x.order(11), 6);
        x.lose(2);
        due(8, "order(7) once more", x.order(7), 7);
        before = x.digest();
        due(8, "order(7) of a full object", x.order(7), STATE);
        due(8, "order(2) of a full object", x.order(2), FULL);
        due(8, "order(6) of a full object", x.order(6), OUTSIDE);
        x.lose(0);
        due(8, "order(1): dropped, yet numbers are out", x.order(1), FULL);
        due(8, "count(3)", x.count(3), 8);
        due(8, "count(2)", x.count(2), 6);
    }

    private static void orderOfEntries() {
        KeptOrders x = new KeptOrders();
        x.row(2, 1, 9, 0);
        x.row(1, 2, 9, 5);
        x.row(2, 0, 9, 5);
        x.row(1, 2, 8, 5);
        x.order(1);   // a
        x.order(7);   // ab
        x.order(11);  // ba
        x.order(38);  // abc
        x.order(4);   // d
        int[][] want = {{1, 3, 0, 2}, {1, 3, 2, 0}, {2, 0, 1, 3}, {3, 1, 2, 0}, {0, 1, 2, 3}};
        for (int o = 0; o < 5; o++) {
            for (int i = 0; i < 4; i++) {
                due(8, "entry(" + o + ", " + i + ")", x.entry(o, i), want[o][i]);
            }
        }
        KeptOrders y = ordered();
        int[][] leaves = {{6, 6, NONE}, {6, 6, NONE}, {4, 4, 4, NONE}, {3, 3, 3, 3, NONE}};
        for (int o = 0; o < 4; o++) {
            for (int i = 0; i < leaves[o].length; i++) {
                due(8, "leaf(" + o + ", " + i + ")", y.leaf(o, i), leaves[o][i]);
            }
        }
    }

    private static void lose() {
        KeptOrders x = ordered();
        due(9, "lose(3)", x.lose(3), 5);
        due(9, "lose(0)", x.lose(0), 3);
        long before = x.digest();
        due(9, "lose(0) again", x.lose(0), UNKNOWN);
        due(9, "lose(-1)", x.lose(-1), UNKNOWN);
        due(9, "lose(5)", x.lose(5), UNKNOWN);
        due(9, "lose(8)", x.lose(8), UNKNOWN);
        due(9, "lose(HIGH)", x.lose(HIGH), UNKNOWN);
        same(9, x, before);
        due(9, "count(2)", x.count(2), 3);
        due(9, "count(3)", x.count(3), 5);
        due(9, "about(1, 0) keeps its number", x.about(1, 0), 2);
        KeptOrders empty = new KeptOrders();
        empty.order(1);
        due(9, "lose(0) of an empty one", empty.lose(0), 0);
    }

    private static void pack() {
        KeptOrders x = new KeptOrders();
        x.order(1);
        for (int i = 0; i < 10; i++) {
            x.row(i, 0, 0, 0);
        }
        // 0..6 is cut into 4 and 3, and the second takes 7, 8, 9
        due(10, "leaf(0, 0)", x.leaf(0, 0), 4);
        due(10, "leaf(0, 1)", x.leaf(0, 1), 6);
        due(10, "pack(0)", x.pack(0), 0);
        due(10, "leaf(0, 0) packed", x.leaf(0, 0), 6);
        due(10, "leaf(0, 1) packed", x.leaf(0, 1), 4);
        for (int i = 10; i < 30; i++) {
            x.row(i, 0, 0, 0);
        }
        // leaves of 6 and then of 4 each: 6 4 4 4 4 4 4, of size 7, 2, 1
        due(10, "about(0, 3)", x.about(0, 3), 10);
        due(10, "pack(0) of 30", x.pack(0), 10 - 8);
        due(10, "about(0, 1)", x.about(0, 1), 5);
        for (int i = 0; i < 5; i++) {
            due(10, "leaf(0, " + i + ")", x.leaf(0, i), 6);
        }
        due(10, "entry(0, 29)", x.entry(0, 29), 29);
        due(10, "pack(-1)", x.pack(-1), UNKNOWN);
        due(10, "pack(1)", x.pack(1), UNKNOWN);
        x.lose(0);
        due(10, "pack of a dropped one", x.pack(0), UNKNOWN);
    }

    private static void about() {
        KeptOrders x = new KeptOrders();
        x.order(38);
        x.order(1);
        x.order(7);
        due(11, "about(0, 1) of none", x.about(0, 1), 0);
        due(11, "about(0, 2) of none", x.about(0, 2), 0);
        due(11, "about(0, 3) of none", x.about(0, 3), 0);
        x.row(1, 1, 1, 1);
        due(11, "about(0, 1) of one", x.about(0, 1), 1);
        due(11, "about(0, 2) of one", x.about(0, 2), 0);
        due(11, "about(0, 3) of one", x.about(0, 3), 1);
        x.fill(9, 64, 100);
        for (int o = 0; o < 3; o++) {
            x.pack(o);
        }
        int[][] want = {{38, 22, 3, 31}, {1, 11, 2, 15}, {7, 16, 2, 21}};
        for (int o = 0; o < 3; o++) {
            for (int what = 0; what < 4; what++) {
                due(11, "about(" + o + ", " + what + ")", x.about(o, what), want[o][what]);
            }
        }
        int cuts = x.about(1, 4);
        x.pack(1);
        due(11, "about(1, 4) stays when packed", x.about(1, 4), cuts);
        due(11, "about(0, -1)", x.about(0, -1), OUTSIDE);
        due(11, "about(0, 5)", x.about(0, 5), OUTSIDE);
        due(11, "about(3, 5)", x.about(3, 5), UNKNOWN);
        due(11, "about(-1, 0)", x.about(-1, 0), UNKNOWN);
        x.lose(0);
        due(11, "about of a dropped one", x.about(0, 0), UNKNOWN);
        int[] rows = {4, 5, 6, 7, 12, 13, 24, 25};
        int[] heights = {0, 0, 0, 1, 1, 1, 1, 2};
        for (int i = 0; i < rows.length; i++) {
            KeptOrders y = new KeptOrders();
            y.fill(2, rows[i], 100);
            y.order(1);
            due(11, "height of " + rows[i], y.about(0, 2), heights[i]);
        }
    }

    private static void entriesComeAndGo() {
        KeptOrders x = new KeptOrders();
        x.order(38);
        x.row(5, 0, 0, 0);
        due(12, "entry(0, 0)", x.entry(0, 0), 0);
        due(13, "leaf(0, 0): a leaf comes", x.leaf(0, 0), 1);
        x.row(3, 0, 0, 0);
        x.row(7, 0, 0, 0);
        x.row(6, 0, 0, 0);
        // 3 5 6 7: more than 3, so 2 stay
        due(13, "leaf(0, 0) cut", x.leaf(0, 0), 2);
        due(13, "leaf(0, 1) cut", x.leaf(0, 1), 2);
        // 6 with a higher slot is behind the first of the second leaf
        due(2, "row(6, 0, 0, 0)", x.row(6, 0, 0, 0), 4);
        due(13, "leaf(0, 1) takes it", x.leaf(0, 1), 3);
        // 5 between the leaves comes into the first one
        x.row(5, 9, 0, 0);
        due(13, "leaf(0, 0) takes it", x.leaf(0, 0), 3);
        // ahead of all: into the first one, which is cut 2 and 2
        x.row(0, 0, 0, 0);
        int[] leaves = {2, 2, 3, NONE};
        for (int i = 0; i < 4; i++) {
            due(13, "leaf(0, " + i + ")", x.leaf(0, i), leaves[i]);
        }
        int[] slots = {6, 1, 0, 5, 3, 4, 2};
        for (int i = 0; i < 7; i++) {
            due(12, "entry(0, " + i + ")", x.entry(0, i), slots[i]);
        }
        due(11, "about(0, 4)", x.about(0, 4), 2);
        x.drop(0);
        x.drop(5);
        due(13, "leaf(0, 1): a leaf went", x.leaf(0, 1), 3);
        due(13, "leaf(0, 2)", x.leaf(0, 2), NONE);
        due(11, "about(0, 1)", x.about(0, 1), 2);
        // a like number with a lower slot than the first of a leaf comes into the leaf ahead
        KeptOrders y = new KeptOrders();
        for (int i = 0; i < 8; i++) {
            y.row(i < 4 ? 1 : 2, 0, 0, 0);
        }
        y.order(7);
        y.drop(4);
        y.drop(0);
        y.row(2, 0, 0, 0);
        due(12, "entry(0, 3)", y.entry(0, 3), 0);
        due(13, "leaf(0, 0)", y.leaf(0, 0), 4);
        due(13, "leaf(0, 1)", y.leaf(0, 1), 3);
    }

    private static void entryAndLeaf() {
        KeptOrders x = ordered();
        due(12, "entry(2, 0)", x.entry(2, 0), 0);
        due(12, "entry(2, 1)", x.entry(2, 1), 3);
        due(12, "entry(2, 11)", x.entry(2, 11), 11);
        due(12, "entry(2, 12)", x.entry(2, 12), NONE);
        due(12, "entry(2, -1)", x.entry(2, -1), NONE);
        due(12, "entry(2, HIGH)", x.entry(2, HIGH), NONE);
        due(12, "entry(2, LOW)", x.entry(2, LOW), NONE);
        due(12, "entry(-1, 0)", x.entry(-1, 0), UNKNOWN);
        due(12, "entry(5, -1)", x.entry(5, -1), UNKNOWN);
        due(13, "leaf(2, 2)", x.leaf(2, 2), 4);
        due(13, "leaf(2, 3)", x.leaf(2, 3), NONE);
        due(13, "leaf(2, -1)", x.leaf(2, -1), NONE);
        due(13, "leaf(2, HIGH)", x.leaf(2, HIGH), NONE);
        due(13, "leaf(8, 0)", x.leaf(8, 0), UNKNOWN);
        x.lose(2);
        due(12, "entry of a dropped one", x.entry(2, 0), UNKNOWN);
        due(13, "leaf of a dropped one", x.leaf(2, 0), UNKNOWN);
    }

    private static void letters() {
        KeptOrders x = new KeptOrders();
        due(14, "letters(0)", x.letters(0L), 0);
        due(14, "letters of one", x.letters('a'), 1);
        due(14, "letters of two", x.letters('=' | '5' << 8), 3);
        due(14, "letters of eight", x.letters(0x7e7e7e7e7e7e7e7eL), 11);
        due(14, "letters of the least code", x.letters(0x01L), 12);
        due(16, "good() of a=5~~", x.good(), 3);
        long before = x.digest();
        due(14, "a byte of 127", x.letters(0x7fL), OUTSIDE);
        due(14, "a byte of 255", x.letters(0xff61L), OUTSIDE);
        due(14, "a highest byte of 128", x.letters(0x8061616161616161L), OUTSIDE);
        due(14, "a byte behind 0", x.letters(0x610061L), OUTSIDE);
        due(14, "a byte behind a first 0", x.letters(0x6100L), OUTSIDE);
        due(14, "a highest byte behind 0", x.letters(0x6100616161616161L), OUTSIDE);
        due(14, "letters(-1)", x.letters(-1L), OUTSIDE);
        due(14, "letters(LOW)", x.letters(Long.MIN_VALUE), OUTSIDE);
        same(14, x, before);
        for (int i = 0; i < 6; i++) {
            due(14, "letters up to 60", x.letters(0x6161616161616161L), 20 + 8 * i);
        }
        before = x.digest();
        due(14, "letters above 60", x.letters(0x61L), FULL);
        due(14, "wrong letters above 60", x.letters(0x7fL), OUTSIDE);
        due(14, "letters(0) at 60", x.letters(0L), 60);
        same(14, x, before);
        x.blank();
        write(x, "aaaaaaaaaaaaaaaaaaaaaaaaaaaaaaaaaaaaaaaaaaaaaaaaaaaaaaaaa");
        due(14, "eight at 57", x.letters(0x6161616161616161L), FULL);
        due(14, "four at 57", x.letters(0x61616161L), FULL);
        due(14, "three at 57", x.letters(0x616161L), 60);
    }

    private static void blank() {
        KeptOrders x = new KeptOrders();
        due(15, "blank() of none", x.blank(), 0);
        write(x, "a=5:abcd/a");
        due(15, "blank()", x.blank(), 10);
        due(15, "blank() again", x.blank(), 0);
        due(15, "count(6)", x.count(6), 0);
        due(15, "letters behind blank()", x.letters(':' | 'a' << 8), 2);
        due(15, "ask() behind blank()", x.ask(), 0);
    }

    private static void good() {
        String[] texts = {
            "", ":", ":a", ":abcd", ":abcda", ":aa", ":ba/c", ":ba/e", ":ba/cc", ":ba//", "/", ":/", ":e", ":A",
            "a", "e", "a=", "a==", "a<5", "a>05", "a=99", "a=999", "a=5&", "a=5&&", "a=5&:", "a=5:", "a=5:d", "a5", "&",
            "a=:", "a=5&b<6&c>7&d=8:dcba/d", "a=5&a=6&a=7:a", "a=5 :", " a=5", "a=5/a", ":a:", ":a&", ":a/a:", "a:b", "a=b", "a=5a",
            "a=5:a5", "a=5:a=5", "a=/", "a=;"};
        int[] want = {
            0, 1, 2, 5, 5, 2, 5, 4, 5, 4, 0, 1, 1, 1,
            1, 0, 2, 2, 3, 4, 4, 4, 4, 4, 4, 4, 5, 1, 0,
            2, 22, 13, 3, 0, 3, 2, 2, 4, 1, 2, 3,
            5, 5, 2, 2};
        for (int i = 0; i < texts.length; i++) {
            KeptOrders x = new KeptOrders();
            write(x, texts[i]);
            due(16, "good() of " + texts[i], x.good(), want[i]);
            due(16, "count(6) behind good()", x.count(6), texts[i].length());
        }
        KeptOrders x = new KeptOrders();
        String longest = "a=10&b=10&c=10&d=10&a=10&b=10&c=10&d=10&a=10&b=10&c=10&d=10&".substring(0, 60);
        write(x, longest);
        due(16, "good() of a text that goes on beyond 60", x.good(), 60);
    }

    private static void ask() {
        KeptOrders x = new KeptOrders();
        String[] texts = {":a", "a=1:b", "a<05&b>9:dcba/a", "a=1&a=2:a/b", ":b/b", "d>99:c", "a<0:a"};
        for (int i = 0; i < texts.length; i++) {
            due(17, "ask() of " + texts[i], asked(x, texts[i]), i);
            due(17, "count(6) behind ask()", x.count(6), 0);
            due(17, "count(4) behind ask()", x.count(4), i + 1);
        }
        String[] none = {"", ":", "a", "a=5", "a=5:", "a=5&:a", ":a/", ":aa", ":a ", "a=555:a", "a=:a", "&a=5:a", ":a/e", ":a/ab", "e=5:a"};
        for (String text : none) {
            write(x, text);
            long before = x.digest();
            due(17, "ask() of " + text, x.ask(), STATE);
            same(17, x, before);
            due(17, "blank() behind " + text, x.blank(), text.length());
        }
        due(17, "ask() of the eighth", asked(x, ":d"), 7);
        for (int c = 0; c < 4; c++) {
            due(17, "bound(7, " + c + ", 0): nothing is left of refused texts", x.bound(7, c, 0), 0);
            due(17, "bound(7, " + c + ", 1)", x.bound(7, c, 1), 99);
        }
        write(x, ":d");
        long before = x.digest();
        due(17, "ask() of the ninth", x.ask(), FULL);
        same(17, x, before);
        write(x, "x");
        due(17, "ask() of a wrong ninth", x.ask(), STATE);
        due(17, "blank()", x.blank(), 3);
    }

    /** What a refused text told must not show in the looks of the next one. */
    private static void askBehindARefusedText() {
        KeptOrders x = twelve();
        x.order(1);
        due(17, "ask() of a=5:ab/", asked(x, "a=5:ab/"), STATE);
        x.blank();
        due(17, "ask() of :a/a", asked(x, ":a/a"), 0);
        due(22, "looks(0, 0): a is not fixed", x.looks(0, 0), 3 + 12);
        due(22, "looks(0, 1): a alone is shown", x.looks(0, 1), 1 + 2);
        due(23, "run(0, 0): a is not bound", x.run(0, 0), 12);
        due(17, "ask() of :b/c", asked(x, ":b/c/"), STATE);
        x.blank();
        due(17, "ask() of :b", asked(x, ":b"), 1);
        due(22, "looks(1, 0): it is not sorted", x.looks(1, 0), 3);
    }

    private static void bound() {
        KeptOrders x = new KeptOrders();
        asked(x, ":a");
        asked(x, "a=5&b<30&c>40&d>5&d<9:a");
        asked(x, "a=5&a=6&b<0&c>99&d>50&d<51:a");
        asked(x, "a<50&a<20&a>3&a>10&b=7&b<8&b>6&c=0&d=99:a");
        asked(x, "a<99&b>0&c>9&c<11&d=05:a");
        int[][] want = {
            {0, 99, 0, 99, 0, 99, 0, 99}, {5, 5, 0, 29, 41, 99, 6, 8}, {0, -1, 0, -1, 0, -1, 0, -1},
            {11, 19, 7, 7, 0, 0, 99, 99}, {0, 98, 1, 99, 10, 10, 5, 5}};
        for (int q = 0; q < want.length; q++) {
            for (int c = 0; c < 4; c++) {
                due(18, "bound(" + q + ", " + c + ", 0)", x.bound(q, c, 0), want[q][2 * c]);
                due(18, "bound(" + q + ", " + c + ", 1)", x.bound(q, c, 1), want[q][2 * c + 1]);
            }
        }
        due(18, "bound(-1, 0, 0)", x.bound(-1, 0, 0), UNKNOWN);
        due(18, "bound(5, 0, 2)", x.bound(5, 0, 2), UNKNOWN);
        due(18, "bound(8, 0, 0)", x.bound(8, 0, 0), UNKNOWN);
        due(18, "bound(0, -1, 0)", x.bound(0, -1, 0), UNKNOWN);
        due(18, "bound(0, 4, 2)", x.bound(0, 4, 2), UNKNOWN);
        due(18, "bound(0, 0, 2)", x.bound(0, 0, 2), OUTSIDE);
        due(18, "bound(0, 0, -1)", x.bound(0, 0, -1), OUTSIDE);
        due(18, "bound(2, 0, 2) of none", x.bound(2, 0, 2), OUTSIDE);
    }

    private static void weight() {
        KeptOrders x = new KeptOrders();
        asked(x, ":a");
        asked(x, ":b");
        due(19, "weight(0, 99)", x.weight(0, 99), 1);
        due(19, "weight(0, 0)", x.weight(0, 0), 99);
        due(19, "weight(1, 5)", x.weight(1, 5), 1);
        long before = x.digest();
        due(19, "weight(0, 100)", x.weight(0, 100), OUTSIDE);
        due(19, "weight(0, -1)", x.weight(0, -1), OUTSIDE);
        due(19, "weight(2, 100)", x.weight(2, 100), UNKNOWN);
        due(19, "weight(-1, 5)", x.weight(-1, 5), UNKNOWN);
        same(19, x, before);
        due(19, "weight(0, 7)", x.weight(0, 7), 0);
    }

    private static void answersAndAnswer() {
        KeptOrders x = twelve();
        asked(x, ":a");
        asked(x, "a>0&b<2:c");
        asked(x, "a>0&b<2:c/b");
        asked(x, "a=1&a=2:c");
        asked(x, "c>5:c/a");
        due(20, "answers(0)", x.answers(0), 12);
        due(20, "answers(1)", x.answers(1), 6);
        due(20, "answers(3)", x.answers(3), 0);
        due(20, "answers(4)", x.answers(4), 6);
        int[][] want = {{0, 1, 2, 3, 4, 5, 6, 7, 8, 9, 10, 11, NONE}, {3, 4, 6, 7, 9, 10, NONE}, {3, 6, 9, 4, 7, 10, NONE}, {NONE}};
        for (int q = 0; q < want.length; q++) {
            for (int i = 0; i < want[q].length; i++) {
                due(21, "answer(" + q + ", " + i + ")", x.answer(q, i), want[q][i]);
            }
        }
        x.set(11, 0, 0);
        x.set(7, 0, 1);
        int[] then = {11, 7, 6, 8, 9, 10, NONE};
        for (int i = 0; i < then.length; i++) {
            due(21, "answer(4, " + i + ")", x.answer(4, i), then[i]);
        }
        due(21, "answer(0, -1)", x.answer(0, -1), NONE);
        due(21, "answer(0, LOW)", x.answer(0, LOW), NONE);
        due(21, "answer(0, HIGH)", x.answer(0, HIGH), NONE);
        due(20, "answers(5)", x.answers(5), UNKNOWN);
        due(20, "answers(-1)", x.answers(-1), UNKNOWN);
        due(21, "answer(5, 0)", x.answer(5, 0), UNKNOWN);
        due(21, "answer(-1, -1)", x.answer(-1, -1), UNKNOWN);
    }

    private static void looksByTable() {
        KeptOrders x = twelve();
        asked(x, "a=1:d");
        due(22, "looks(0, 0)", x.looks(0, 0), 3);
        x.wide(8);
        due(22, "looks(0, 0) at 8", x.looks(0, 0), 2);
        x.wide(5);
        due(22, "looks(0, 0) at 5", x.looks(0, 0), 3);
        x.wide(4);
        for (int s = 4; s < 8; s++) {
            x.drop(s);
        }
        due(22, "looks(0, 0) without a page", x.looks(0, 0), 2);
    }

    private static void looksByOrder() {
        KeptOrders x = ordered();
        asked(x, "a=1:d");
        asked(x, "a=1&b=2:a");
        asked(x, "a<2&b=2:ab");
        asked(x, "a=1&b=2&c>3:a");
        asked(x, ":b");
        asked(x, "b=1&a>1:d");
        int[][] want = {
            {3, 4, 6, 6, 4, 6},   // fetched: slots 3, 4, 5 lie on two pages
            {3, 4, 5, 2, 2, 6},   // covered by ba and abc
            {3, 4, 5, 2, 3, 6},   // abc: a bound alone makes the run, of two leaves
            {3, 4, 5, 3, 2, 5},   // ba lacks c; c: slots 4 to 11 in both leaves and on two pages
            {3, 6, 3, 4, 5, 6},   // nothing bound: all leaves; covered by b, ba, abc
            {3, 4, 6, 4, 5, 6}};  // a: run of slots 6 to 11; ba: slots 7 and 10
        for (int q = 0; q < want.length; q++) {
            for (int way = 0; way < 6; way++) {
                due(22, "looks(" + q + ", " + way + ")", x.looks(q, way), want[q][way]);
            }
        }
    }

    private static void looksByBoth() {
        KeptOrders x = ordered();
        asked(x, "a=1:d");
        asked(x, "a=1&b=2:a");
        asked(x, "a=1&b=2&c>3:a");
        // height and leaves of a 2, of b 3, and slots 3, 4, 5 on two pages
        due(22, "looks(0, 101)", x.looks(0, 101), 2 + 3 + 2);
        // ba leaves, of all its entries, those with a = 1
        due(22, "looks(0, 112)", x.looks(0, 112), 3 + 4 + 2);
        due(22, "looks(0, 134)", x.looks(0, 134), 2 + 3 + 2);
        due(22, "looks(1, 101)", x.looks(1, 101), 2 + 2 + 1);
        due(22, "looks(1, 123) is fetched all the same", x.looks(1, 123), 2 + 2 + 1);
        due(22, "looks(2, 104)", x.looks(2, 104), 2 + 3 + 1);
        due(22, "looks(2, 124)", x.looks(2, 124), 2 + 3 + 1);
        // what each leaves is wide, what both leave is not
        asked(x, "b=0&c<6:d");
        due(22, "looks(3, 114)", x.looks(3, 114), 2 + 2 + 1);
        due(22, "looks(3, 2)", x.looks(3, 2), 2 + 3);
    }

    private static void looksForSorting() {
        KeptOrders x = ordered();
        asked(x, "b>0&c<6:abc/c");
        int[] want = {3 + 4, 6 + 4, 6 + 4, 6 + 4, 5 + 4, 4};
        for (int way = 0; way < 6; way++) {
            due(22, "looks(0, " + way + ")", x.looks(0, way), want[way]);
        }
        // b leaves pages of slots 1 2 4 5 7 8 10 11, c of 0 to 5: both of 1 2 4 5
        due(22, "looks(0, 114)", x.looks(0, 114), 3 + 2 + 2 + 4);
        asked(x, "c=3:ab/c");
        due(22, "looks(1, 0): sorted by a fixed column", x.looks(1, 0), 3);
        due(22, "looks(1, 5)", x.looks(1, 5), 3);
        due(22, "looks(1, 4)", x.looks(1, 4), 5);
        asked(x, "a=1:b/b");
        due(22, "looks(2, 0)", x.looks(2, 0), 3 + 3);
        due(22, "looks(2, 4): behind a fixed column", x.looks(2, 4), 2);
        due(22, "looks(2, 1)", x.looks(2, 1), 4 + 3);
        due(22, "looks(2, 3): b is first in ba", x.looks(2, 3), 4);
        due(22, "looks(2, 2)", x.looks(2, 2), 6);
        asked(x, "a=1:b/c");
        due(22, "looks(3, 4): b comes ahead of c", x.looks(3, 4), 2 + 3);
        asked(x, ":a/d");
        due(22, "looks(4, 1): d, by which it is sorted, must be fetched", x.looks(4, 1), 1 + 2 + 3 + 12);
        asked(x, "a=1:b/a");
        due(22, "looks(5, 1): a is fixed", x.looks(5, 1), 4);
        due(22, "looks(5, 2): a is not in the key", x.looks(5, 2), 6);
    }

    private static void looksWhereNothingIs() {
        KeptOrders x = ordered();
        asked(x, "a=9:a");
        due(22, "looks(0, 1): no entry, yet a leaf", x.looks(0, 1), 2);
        asked(x, "a=9:d");
        due(22, "looks(1, 1): no page", x.looks(1, 1), 2);
        asked(x, "a>5&a<3:a");
        due(22, "looks(2, 1): bounds let none", x.looks(2, 1), 2);
        due(22, "looks(2, 102)", x.looks(2, 102), 2 + 4);
        asked(x, "a=1&a=2&b=1:a");
        due(22, "looks(3, 4): bounds let none, and are not fixed", x.looks(3, 4), 2);
        due(23, "run(3, 3)", x.run(3, 3), 0);
        KeptOrders y = new KeptOrders();
        y.order(1);
        y.order(2);
        asked(y, "a=1:d/c");
        due(22, "looks(0, 0) of an empty table", y.looks(0, 0), 0);
        due(22, "looks(0, 1) of an empty table", y.looks(0, 1), 0);
        due(22, "looks(0, 101) of an empty table", y.looks(0, 101), 0);
    }

    private static void looksRefused() {
        KeptOrders x = ordered();
        asked(x, "a=1:d");
        x.lose(1);
        int[] bad = {-1, LOW, HIGH, 2, 6, 7, 8, 9, 10, 99, 100, 101, 112, 110, 111, 105, 140, 134 + 10, 177, 178, 200, 133, 120};
        for (int way : bad) {
            due(22, "looks(0, " + way + ")", x.looks(0, way), UNKNOWN);
        }
        due(22, "looks(1, 0)", x.looks(1, 0), UNKNOWN);
        due(22, "looks(-1, 0)", x.looks(-1, 0), UNKNOWN);
        due(22, "looks(0, 102)", x.looks(0, 102), 2 + 4 + 2);
    }

    private static void run() {
        KeptOrders x = ordered();
        asked(x, "a=1&b=2:a");
        asked(x, "a<2&b=2:ab");
        asked(x, ":a");
        int[][] want = {{3, 4, 1, 1, 12}, {6, 4, 2, 6, 12}, {12, 12, 12, 12, 12}};
        for (int q = 0; q < 3; q++) {
            for (int o = 0; o < 5; o++) {
                due(23, "run(" + q + ", " + o + ")", x.run(q, o), want[q][o]);
            }
        }
        due(23, "run(3, 0)", x.run(3, 0), UNKNOWN);
        due(23, "run(-1, 0)", x.run(-1, 0), UNKNOWN);
        due(23, "run(0, 5)", x.run(0, 5), UNKNOWN);
        due(23, "run(0, -1)", x.run(0, -1), UNKNOWN);
        x.lose(4);
        due(23, "run(0, 4) of a dropped one", x.run(0, 4), UNKNOWN);
    }

    private static void best() {
        KeptOrders x = ordered();
        asked(x, "a=1&b=2:a");
        asked(x, "a=1:d");
        due(24, "best(0, 255)", x.best(0, 255), 3);
        due(24, "best(0, 31)", x.best(0, 31), 3);
        due(24, "best(0, 8)", x.best(0, 8), 4);
        due(24, "best(0, 12)", x.best(0, 12), 3);
        due(24, "best(0, 1)", x.best(0, 1), 0);
        due(24, "best(0, 0)", x.best(0, 0), 0);
        due(24, "best(1, 255)", x.best(1, 255), 0);
        x.lose(2);
        due(24, "best(0, 255) without 2", x.best(0, 255), 4);
        due(24, "best(0, 4) of a dropped one", x.best(0, 4), 0);
        due(24, "best(0, 224) of none told", x.best(0, 224), 0);
        due(24, "best(0, 256)", x.best(0, 256), OUTSIDE);
        due(24, "best(0, -1)", x.best(0, -1), OUTSIDE);
        due(24, "best(2, 256)", x.best(2, 256), UNKNOWN);
        due(24, "best(-1, 0)", x.best(-1, 0), UNKNOWN);
        KeptOrders y = both();
        // each alone fetches eight pages, both only one
        due(24, "best(0, 3)", y.best(0, 3), 101);
        due(24, "best(0, 1) of both", y.best(0, 1), 1);
        due(24, "best(0, 2) of both", y.best(0, 2), 2);
        y.order(3);
        y.order(1 * 25 + 3 * 5 + 4);
        y.lose(0);
        due(24, "best(0, 255): by 1 and 3", y.best(0, 255), 113);
        due(24, "best(0, 10)", y.best(0, 10), 113);
        due(24, "best(0, 9)", y.best(0, 9), 4);
        due(27, "choose(99, 0): 1 and 3", y.choose(99, 0), 10);
    }

    /** 64 rows: a is 1 at each eighth slot from 0, b is 1 at each eighth from 0 to 32 and at others; orders a and b. */
    private static KeptOrders both() {
        KeptOrders x = new KeptOrders();
        for (int s = 0; s < 64; s++) {
            x.row(s % 8 == 0 ? 1 : 2, s % 8 == (s == 0 ? 0 : 1) ? 1 : 2, 0, 0);
        }
        x.order(1);
        x.order(2);
        asked(x, "a=1&b=1:d");
        return x;
    }

    private static void work() {
        KeptOrders x = ordered();
        asked(x, "a=1&b=2:a");
        asked(x, "b>0&c<6:abc/c");
        due(25, "work(0)", x.work(0), 3 + 7);
        due(25, "work(4)", x.work(4), 2 + 7);
        due(25, "work(20)", x.work(20), 2 + 4);
        due(25, "work(255)", x.work(255), 2 + 4);
        x.weight(0, 10);
        due(25, "work(4) with a weight", x.work(4), 20 + 7);
        x.weight(1, 0);
        due(25, "work(4) without a weight", x.work(4), 20);
        x.upkeep(5);
        due(25, "work(4) with upkeep", x.work(4), 20 + 5 * 3);
        due(25, "work(0) with upkeep", x.work(0), 30);
        due(25, "work(31) with upkeep", x.work(31), 20 + 5 * 15);
        due(25, "work(255) with upkeep", x.work(255), 20 + 5 * 15);
        x.lose(2);
        due(25, "work(4) of a dropped one", x.work(4), 30);
        due(25, "work(256)", x.work(256), OUTSIDE);
        due(25, "work(-1)", x.work(-1), OUTSIDE);
        due(25, "work(LOW)", x.work(LOW), OUTSIDE);
        KeptOrders y = new KeptOrders();
        y.order(1);
        y.upkeep(3);
        due(25, "work(1): height 0, and 2", y.work(1), 6);
    }

    private static void upkeep() {
        KeptOrders x = new KeptOrders();
        due(26, "upkeep(99)", x.upkeep(99), 0);
        due(26, "upkeep(1)", x.upkeep(1), 99);
        long before = x.digest();
        due(26, "upkeep(100)", x.upkeep(100), OUTSIDE);
        due(26, "upkeep(-1)", x.upkeep(-1), OUTSIDE);
        same(26, x, before);
        due(26, "upkeep(0)", x.upkeep(0), 1);
    }

    private static void choose() {
        KeptOrders x = ordered();
        asked(x, "a=1&b=2:a");
        asked(x, "b>0&c<6:abc/c");
        x.weight(0, 5);
        // ba makes 15 to 10, abc too; c makes 7 to 4
        due(27, "choose(9999, 0)", x.choose(9999, 0), 20);
        due(27, "choose(9999, 1)", x.choose(9999, 1), 14);
        due(27, "choose(9999, 2)", x.choose(9999, 2), 7);
        due(27, "choose(7, 0)", x.choose(7, 0), 20);
        due(27, "choose(6, 0)", x.choose(6, 0), 4);
        due(27, "choose(6, 1)", x.choose(6, 1), 17);
        due(27, "choose(4, 2)", x.choose(4, 2), 4);
        due(27, "choose(3, 0)", x.choose(3, 0), 16);
        due(27, "choose(3, 1)", x.choose(3, 1), 19);
        due(27, "choose(2, 0)", x.choose(2, 0), 0);
        due(27, "choose(0, 1)", x.choose(0, 1), 22);
        x.upkeep(1);
        // each order costs 3: c earns 3 and goes, ba earns 5 and stays
        due(27, "choose(99, 0) with upkeep", x.choose(99, 0), 4);
        due(27, "choose(99, 1) with upkeep", x.choose(99, 1), 20);
        x.upkeep(2);
        due(27, "choose(99, 0) with more", x.choose(99, 0), 0);
        x.upkeep(0);
        x.lose(2);
        due(27, "choose(9999, 0) without 2", x.choose(9999, 0), 24);
        long before = x.digest();
        due(27, "choose(-1, 0)", x.choose(-1, 0), OUTSIDE);
        due(27, "choose(10000, 0)", x.choose(10000, 0), OUTSIDE);
        due(27, "choose(0, -1)", x.choose(0, -1), OUTSIDE);
        due(27, "choose(0, 3)", x.choose(0, 3), OUTSIDE);
        same(27, x, before);
        due(27, "count(7)", x.count(7), 15);
    }

    private static void chooseOfLikeOnes() {
        KeptOrders x = twelve();
        x.order(38);
        x.order(7);
        x.order(11);
        asked(x, "a=1&b=2:a");
        // abc, ab and ba all make it 2: abc has size 5, the others 4, and ab has the lesser number
        due(27, "choose(50, 0)", x.choose(50, 0), 2);
        due(27, "choose(50, 2)", x.choose(50, 2), 4);
        KeptOrders y = new KeptOrders();
        y.order(1);
        y.order(2);
        asked(y, ":a");
        due(27, "choose(50, 0) of sizes 0", y.choose(50, 0), 0);
        KeptOrders w = twelve();
        w.order(11);
        w.order(1);
        w.order(3);
        asked(w, "a=1&b=2:a");
        asked(w, "b>0&c<6:abc/c");
        due(27, "choose(50, 0): 0 and 2, each for a question", w.choose(50, 0), 5);
        due(27, "choose(50, 1)", w.choose(50, 1), 2 + 4);
        KeptOrders z = both();
        // both orders together: 2 + 2 leaves at most, and 1 page
        due(27, "choose(99, 0) of both", z.choose(99, 0), 3);
        due(27, "choose(99, 1) of both", z.choose(99, 1), z.looks(0, 101));
    }

    private static void chooseTimes() {
        KeptOrders x = ordered();
        for (int i = 0; i < 20; i++) {
            due(27, "choose(0, " + i % 3 + ")", x.choose(0, i % 3), 0);
        }
        long before = x.digest();
        due(27, "choose(0, 0) at last", x.choose(0, 0), STATE);
        due(27, "choose(0, 3) at last", x.choose(0, 3), OUTSIDE);
        due(27, "choose(10000, 0) at last", x.choose(10000, 0), OUTSIDE);
        same(27, x, before);
        for (int i = 0; i < 20; i++) {
            due(28, "steps(0, 10)", x.steps(0, 10), NONE);
        }
        before = x.digest();
        due(28, "steps(0, 0) at last", x.steps(0, 0), STATE);
        due(28, "steps(0, 9) at last", x.steps(0, 9), OUTSIDE);
        same(28, x, before);
        due(28, "count(8)", x.count(8), 20);
    }

    private static void steps() {
        KeptOrders x = ordered();
        asked(x, "a=1&b=2:a");
        asked(x, "b>0&c<6:abc/c");
        x.weight(0, 5);
        due(28, "steps(9999, 0)", x.steps(9999, 0), 20);
        due(28, "steps(9999, 1)", x.steps(9999, 1), 14);
        due(28, "steps(9999, 2)", x.steps(9999, 2), 2);
        due(28, "steps(9999, 10)", x.steps(9999, 10), 2);
        due(28, "steps(9999, 11)", x.steps(9999, 11), 4);
        due(28, "steps(9999, 12)", x.steps(9999, 12), NONE);
        due(28, "steps(9999, 17)", x.steps(9999, 17), NONE);
        due(28, "steps(7, 2)", x.steps(7, 2), 2);
        due(28, "steps(6, 0)", x.steps(6, 0), 4);
        due(28, "steps(3, 0)", x.steps(3, 0), 16);
        due(28, "steps(3, 10)", x.steps(3, 10), 4);
        due(28, "steps(2, 0)", x.steps(2, 0), 0);
        due(28, "steps(2, 1)", x.steps(2, 1), 22);
        due(28, "steps(2, 2)", x.steps(2, 2), 0);
        x.weight(0, 1);
        due(28, "steps(99, 10): c earns 3 and comes first", x.steps(99, 10), 4);
        due(28, "steps(99, 11)", x.steps(99, 11), 2);
        long before = x.digest();
        due(28, "steps(-1, 0)", x.steps(-1, 0), OUTSIDE);
        due(28, "steps(10000, 0)", x.steps(10000, 0), OUTSIDE);
        due(28, "steps(0, -1)", x.steps(0, -1), OUTSIDE);
        due(28, "steps(0, 3)", x.steps(0, 3), OUTSIDE);
        due(28, "steps(0, 9)", x.steps(0, 9), OUTSIDE);
        due(28, "steps(0, 18)", x.steps(0, 18), OUTSIDE);
        same(28, x, before);
        due(28, "count(8)", x.count(8), 16);
    }

    private static void stepsOfLikeOnes() {
        KeptOrders x = twelve();
        x.order(38);
        x.order(7);
        x.order(11);
        asked(x, "a=1&b=2:a");
        due(28, "steps(50, 0): of like ones the least number", x.steps(50, 0), 1);
        due(28, "steps(4, 0): 38 goes not in", x.steps(4, 0), 2);
        x.lose(0);
        due(28, "steps(50, 0) without 0", x.steps(50, 0), 2);
        // two that help together alone are not found step by step
        KeptOrders y = apart();
        due(28, "steps(99, 0) of two that help together alone", y.steps(99, 0), 0);
        due(28, "steps(99, 1)", y.steps(99, 1), y.looks(0, 0));
        due(27, "choose(99, 0) finds them", y.choose(99, 0), 3);
    }

    private static void allStepsCome() {
        KeptOrders x = new KeptOrders();
        x.fill(5, 64, 10);
        int[] keys = {1, 2, 3, 4, 7, 13, 19, 21};
        String[] texts = {":a", ":b", ":c", ":d", "a=5&b=5:ab", "b=5&c=5:bc", "c=5&d=5:cd", "d=5&a=5:ad"};
        for (int i = 0; i < 8; i++) {
            x.order(keys[i]);
            asked(x, texts[i]);
        }
        due(28, "steps(9999, 2): each question has an order of its own", x.steps(9999, 2), 8);
        due(28, "steps(9999, 0)", x.steps(9999, 0), 255);
        due(28, "steps(9999, 1)", x.steps(9999, 1), x.work(255));
        int came = 0;
        for (int i = 0; i < 8; i++) {
            came |= 1 << x.steps(9999, 10 + i);
        }
        due(28, "steps(9999, 10) to steps(9999, 17)", came, 255);
    }

    /** 64 rows: a is 1 at each fourth slot, b at each fourth from 1 and at 0: no page is spared by one of both. */
    private static KeptOrders apart() {
        KeptOrders x = new KeptOrders();
        for (int s = 0; s < 64; s++) {
            x.row(s % 4 == 0 ? 1 : 2, s % 4 == 1 || s == 0 ? 1 : 2, 0, 0);
        }
        x.order(1);
        x.order(2);
        asked(x, "a=1&b=1:d");
        return x;
    }

    private static void worth() {
        KeptOrders x = ordered();
        asked(x, "a=1&b=2:a");
        asked(x, "b>0&c<6:abc/c");
        x.weight(0, 5);
        due(29, "worth(20, 2)", x.worth(20, 2), 5);
        due(29, "worth(20, 4)", x.worth(20, 4), 3);
        due(29, "worth(255, 2)", x.worth(255, 2), 0);
        x.upkeep(1);
        due(29, "worth(31, 0)", x.worth(31, 0), -3);
        due(29, "worth(20, 2) with upkeep", x.worth(20, 2), 2);
        due(29, "worth(20, 3)", x.worth(20, 3), UNKNOWN);
        due(29, "worth(20, 5)", x.worth(20, 5), UNKNOWN);
        due(29, "worth(20, -1)", x.worth(20, -1), UNKNOWN);
        due(29, "worth(256, 2)", x.worth(256, 2), OUTSIDE);
        due(29, "worth(-1, 2)", x.worth(-1, 2), OUTSIDE);
        due(29, "worth(256, 3)", x.worth(256, 3), OUTSIDE);
        due(29, "worth(256, 5)", x.worth(256, 5), UNKNOWN);
        due(29, "worth(256, 8)", x.worth(256, 8), UNKNOWN);
        x.lose(2);
        due(29, "worth(20, 2) of a dropped one", x.worth(20, 2), UNKNOWN);
        due(29, "worth(256, 2) of a dropped one", x.worth(256, 2), UNKNOWN);
    }

    private static void picture() {
        for (int n = 0; n < 6; n++) {
            KeptOrders x = new KeptOrders();
            for (int i = 0; i < n; i++) {
                x.row(9 - i, 0, 0, 0);
            }
            due(30, "picture(0) of " + n, x.picture(0), Math.min(n, 4));
        }
        KeptOrders x = twelve();
        due(30, "picture(3)", x.picture(3), 4);
        long before = x.digest();
        due(30, "picture(-1)", x.picture(-1), UNKNOWN);
        due(30, "picture(4)", x.picture(4), UNKNOWN);
        same(30, x, before);
    }

    private static void part() {
        KeptOrders x = new KeptOrders();
        due(31, "part(0, 0, 0) without a picture", x.part(0, 0, 0), NONE);
        x.picture(0);
        due(31, "part(0, 3, 0) of nothing", x.part(0, 3, 0), NONE);
        for (int i = 0; i < 5; i++) {
            x.row(50 - 10 * i, 7, 0, 0);
        }
        due(31, "part(0, 3, 0) of the old one", x.part(0, 3, 0), NONE);
        x.picture(0);
        int[][] want = {{1, 10, 10}, {1, 20, 20}, {1, 30, 30}, {2, 40, 50}};
        for (int i = 0; i < 4; i++) {
            for (int what = 0; what < 3; what++) {
                due(31, "part(0, " + i + ", " + what + ")", x.part(0, i, what), want[i][what]);
            }
        }
        due(31, "part(1, 0, 0)", x.part(1, 0, 0), NONE);
        x.set(0, 0, 99);
        due(31, "part(0, 3, 2) stays", x.part(0, 3, 2), 50);
        x.drop(4);
        x.drop(3);
        x.drop(2);
        x.drop(1);
        x.picture(0);
        for (int what = 0; what < 3; what++) {
            due(31, "part(0, 0, " + what + ") has none", x.part(0, 0, what), NONE);
        }
        due(31, "part(0, 3, 0) has one", x.part(0, 3, 0), 1);
        due(31, "part(0, 3, 1)", x.part(0, 3, 1), 99);
        due(31, "part(0, 4, 0)", x.part(0, 4, 0), OUTSIDE);
        due(31, "part(0, -1, 0)", x.part(0, -1, 0), OUTSIDE);
        due(31, "part(0, 0, 3)", x.part(0, 0, 3), OUTSIDE);
        due(31, "part(0, 0, -1)", x.part(0, 0, -1), OUTSIDE);
        due(31, "part(1, 4, 0) without a picture", x.part(1, 4, 0), OUTSIDE);
        due(31, "part(4, 4, 0)", x.part(4, 4, 0), UNKNOWN);
        due(31, "part(-1, 0, 0)", x.part(-1, 0, 0), UNKNOWN);
    }

    private static void foretold() {
        KeptOrders x = twelve();
        x.picture(2);
        int[][] bounds = {{0, 99}, {2, 6}, {3, 5}, {3, 4}, {12, 99}, {11, 11}, {0, 0}, {1, 10}};
        int[][] want = {{12, 12, 12}, {3, 9, 5}, {3, 3, 3}, {0, 3, 2}, {0, 0, 0}, {0, 3, 1}, {0, 3, 1}, {6, 12, 10}};
        for (int i = 0; i < bounds.length; i++) {
            for (int sort = 0; sort < 3; sort++) {
                String call = "foretold(2, " + bounds[i][0] + ", " + bounds[i][1] + ", " + sort + ")";
                due(32, call, x.foretold(2, bounds[i][0], bounds[i][1], sort), want[i][sort]);
            }
        }
        // of 5 numbers: 1, 1, 1 and 2 with least 40, greatest 50: 2 times 6 by 11 is 1
        KeptOrders y = new KeptOrders();
        for (int i = 0; i < 5; i++) {
            y.row(10 + 10 * i, 0, 0, 0);
        }
        y.picture(0);
        due(32, "foretold(0, 45, 99, 2)", y.foretold(0, 45, 99, 2), 1);
        due(32, "foretold(0, 45, 49, 2)", y.foretold(0, 45, 49, 2), 0);
        due(32, "foretold(0, 45, 49, 1)", y.foretold(0, 45, 49, 1), 2);
        due(32, "foretold(0, 11, 19, 1)", y.foretold(0, 11, 19, 1), 0);
        due(32, "foretold(0, 20, 30, 2)", y.foretold(0, 20, 30, 2), 2);
        due(32, "foretold(1, 0, 9, 0) without a picture", y.foretold(1, 0, 9, 0), NONE);
        KeptOrders z = new KeptOrders();
        z.picture(0);
        for (int sort = 0; sort < 3; sort++) {
            due(32, "foretold of a picture of nothing", z.foretold(0, 0, 99, sort), 0);
        }
        due(32, "foretold(4, 0, 0, 3)", y.foretold(4, 0, 0, 3), UNKNOWN);
        due(32, "foretold(-1, 0, 0, 0)", y.foretold(-1, 0, 0, 0), UNKNOWN);
        due(32, "foretold(0, 0, 0, 3)", y.foretold(0, 0, 0, 3), OUTSIDE);
        due(32, "foretold(0, 0, 0, -1)", y.foretold(0, 0, 0, -1), OUTSIDE);
        due(32, "foretold(0, -1, 0, 0)", y.foretold(0, -1, 0, 0), OUTSIDE);
        due(32, "foretold(0, 100, 100, 0)", y.foretold(0, 100, 100, 0), OUTSIDE);
        due(32, "foretold(0, 0, 100, 0)", y.foretold(0, 0, 100, 0), OUTSIDE);
        due(32, "foretold(0, 0, -1, 0)", y.foretold(0, 0, -1, 0), OUTSIDE);
        due(32, "foretold(0, 5, 4, 0)", y.foretold(0, 5, 4, 0), OUTSIDE);
        due(32, "foretold(1, 5, 4, 0) without a picture", y.foretold(1, 5, 4, 0), OUTSIDE);
    }

    private static void likely() {
        KeptOrders x = twelve();
        asked(x, "b>0&c<6:abc/c");
        asked(x, ":a");
        asked(x, "c>5&c<3:a");
        asked(x, "a=1:a");
        due(33, "likely(0) without pictures", x.likely(0), 0);
        due(33, "likely(1) without pictures", x.likely(1), 0);
        x.picture(2);
        due(33, "likely(0): 6 of 12", x.likely(0), 6);
        due(33, "likely(1)", x.likely(1), 12);
        due(33, "likely(2)", x.likely(2), 0);
        due(33, "likely(3): a has no picture", x.likely(3), 12);
        x.picture(1);
        // b: parts 0 0 0, 0 1 1, 1 1 2, 2 2 2: 0 and 3 times 1 by 2 and 3 and 3 is 7
        due(33, "likely(0): 7 times 6 by 12", x.likely(0), 3);
        for (int s = 0; s < 9; s++) {
            x.drop(s);
        }
        due(33, "likely(1) of the picture's rows", x.likely(1), 12);
        x.picture(0);
        due(33, "likely(1) of the latest picture's rows", x.likely(1), 3);
        // from 3 on: times 7 by 3 is 7, times 6 by 3 is 14
        due(33, "likely(0) of older pictures", x.likely(0), 14);
        x.drop(9);
        x.drop(10);
        x.drop(11);
        x.picture(0);
        due(33, "likely(0) of no rows", x.likely(0), 0);
        due(33, "likely(1) of no rows", x.likely(1), 0);
        due(33, "likely(4)", x.likely(4), UNKNOWN);
        due(33, "likely(-1)", x.likely(-1), UNKNOWN);
    }

    private static void likelyFromAToD() {
        KeptOrders x = new KeptOrders();
        for (int v = 0; v < 4; v++) {
            x.row(v, v, v, 0);
        }
        x.order(86);
        asked(x, "a<3&b<3&c<2:d");
        for (int column = 0; column < 3; column++) {
            x.picture(column);
        }
        // a: 3 of 4, b: 3 by 4 of these is 2, c: 2 by 4 of these is 1; from c to a none would be left
        due(33, "likely(0) from a to d", x.likely(0), 1);
        due(34, "guess(0, 1): KEY COLUMNS from a to d, though the KEY begins with c", x.guess(0, 1), 1 + 1 + 1);
    }

    private static void guess() {
        KeptOrders x = ordered();
        asked(x, "b>0&c<6:abc/c");
        asked(x, "c=4:ab");
        asked(x, "a=1:b/b");
        asked(x, "a=1&b=2:ab");
        // no picture yet: no likely rows, yet each run costs 1
        int[] blind = {3, 1 + 1 + 0, 1 + 1 + 0, 1 + 1 + 0, 1 + 1, 1 + 1};
        for (int way = 0; way < 6; way++) {
            due(34, "guess(0, " + way + ") without pictures", x.guess(0, way), blind[way]);
        }
        x.picture(1);
        x.picture(2);
        // likely: b 7, c 6, both 3
        int[] want = {3 + 3, 1 + 2 + 3 + 3, 1 + 2 + 3 + 3, 1 + 2 + 3 + 3, 1 + 4 + 3, 1 + 1 + 3};
        for (int way = 0; way < 6; way++) {
            due(34, "guess(0, " + way + ")", x.guess(0, way), want[way]);
        }
        due(34, "guess(1, 5): one likely row to fetch", x.guess(1, 5), 1 + 1 + 1);
        due(34, "guess(1, 0)", x.guess(1, 0), 3);
        due(34, "guess(2, 4): 12 rows by 3", x.guess(2, 4), 1 + 4);
        x.picture(0);
        // a = 1: three likely rows
        due(34, "guess(2, 0)", x.guess(2, 0), 3 + 3);
        due(34, "guess(2, 1)", x.guess(2, 1), 1 + 1 + 3 + 3);
        due(34, "guess(2, 4)", x.guess(2, 4), 1 + 1);
        due(34, "guess(2, 3): 12 rows by 4, covered, b first", x.guess(2, 3), 1 + 3);
        // a = 1: 3; b = 2: 0 and 0 and 3 by 2 is 1 and 3 is 4; 3 times 4 by 12 is 1
        due(34, "guess(3, 1)", x.guess(3, 1), 1 + 1 + 3);
        due(34, "guess(3, 3)", x.guess(3, 3), 1 + 1);
        x.wide(8);
        due(34, "guess(3, 1) of two pages", x.guess(3, 1), 1 + 1 + 2);
        x.lose(1);
        int[] bad = {-1, LOW, 2, 6, 8, 9, 100, 101, 103, HIGH};
        for (int way : bad) {
            due(34, "guess(0, " + way + ")", x.guess(0, way), UNKNOWN);
        }
        due(34, "guess(4, 0)", x.guess(4, 0), UNKNOWN);
        due(34, "guess(-1, 0)", x.guess(-1, 0), UNKNOWN);
        KeptOrders y = new KeptOrders();
        y.order(1);
        asked(y, "a=1:b");
        due(34, "guess(0, 1) of an empty table", y.guess(0, 1), 1);
        due(34, "guess(0, 0) of an empty table", y.guess(0, 0), 0);
    }

    private static void chosen() {
        KeptOrders x = ordered();
        asked(x, "b>0&c<6:abc/c");
        asked(x, "a=1&b=2:ab");
        asked(x, ":d");
        x.picture(0);
        x.picture(1);
        x.picture(2);
        due(35, "chosen(0)", x.chosen(0), 5);
        due(35, "chosen(1): ba and abc are like ones", x.chosen(1), 3);
        due(35, "chosen(2): the table", x.chosen(2), 0);
        x.lose(2);
        due(35, "chosen(1) without 2", x.chosen(1), 4);
        due(35, "chosen(3)", x.chosen(3), UNKNOWN);
        due(35, "chosen(-1)", x.chosen(-1), UNKNOWN);
        KeptOrders y = twelve();
        asked(y, "a=1:a");
        due(35, "chosen(0) without orders", y.chosen(0), 0);
    }

    private static void regret() {
        KeptOrders x = ordered();
        asked(x, "b>0&c<6:abc/c");
        asked(x, "a=1&b=2:ab");
        asked(x, "a=1:d");
        // without pictures: the ways of orders seem to cost 2 each, and the least number is taken
        due(35, "chosen(0)", x.chosen(0), 1);
        due(36, "regret(0)", x.regret(0), 10 - 4);
        due(36, "regret(1)", x.regret(1), 4 - 2);
        due(36, "regret(2)", x.regret(2), 4 - 3);
        x.picture(0);
        x.picture(1);
        x.picture(2);
        due(36, "regret(0) with pictures", x.regret(0), 0);
        due(36, "regret(1) with pictures", x.regret(1), 0);
        due(36, "regret(3)", x.regret(3), UNKNOWN);
        due(36, "regret(-1)", x.regret(-1), UNKNOWN);
        // by both is never chosen, yet it is the best way
        KeptOrders y = both();
        y.picture(0);
        y.picture(1);
        due(36, "regret of what both would spare", y.regret(0), y.looks(0, y.chosen(0)) - y.looks(0, 101));
        due(36, "it is more than 0", y.regret(0) > 0 ? 1 : 0, 1);
    }

    private static void mark() {
        KeptOrders x = twelve();
        due(37, "mark()", x.mark(), 1);
        due(37, "mark() again", x.mark(), 2);
        due(37, "mark() once more", x.mark(), 3);
        long before = x.digest();
        due(37, "mark() of a fourth", x.mark(), FULL);
        same(37, x, before);
        x.back(1);
        due(37, "mark() behind back(1)", x.mark(), 3);
    }

    private static void back() {
        KeptOrders x = ordered();
        x.mark();
        x.drop(0);
        x.set(1, 0, 77);
        x.mark();
        x.fill(1, 30, 100);
        x.wide(8);
        x.mark();
        x.drop(2);
        long before = x.digest();
        due(38, "back(3)", x.back(3), UNKNOWN);
        due(38, "back(-1)", x.back(-1), UNKNOWN);
        due(38, "back(HIGH)", x.back(HIGH), UNKNOWN);
        same(38, x, before);
        int cuts = x.about(0, 4);
        due(38, "back(1)", x.back(1), 11);
        due(38, "get(0, 0)", x.get(0, 0), NONE);
        due(38, "get(1, 0)", x.get(1, 0), 77);
        due(38, "get(2, 2)", x.get(2, 2), 2);
        due(38, "count(5)", x.count(5), 2);
        due(38, "wide(4) stays", x.wide(4), 8);
        due(38, "about(0, 4) stays", x.about(0, 4), cuts);
        due(38, "about(0, 1): packed", x.about(0, 1), 2);
        due(38, "leaf(0, 0): packed", x.leaf(0, 0), 6);
        due(38, "entry(0, 10)", x.entry(0, 10), 1);
        due(38, "back(2) is gone", x.back(2), UNKNOWN);
        due(38, "back(0)", x.back(0), 12);
        due(38, "get(1, 0) then", x.get(1, 0), 0);
        due(38, "entry(0, 0)", x.entry(0, 0), 0);
        due(38, "count(5) then", x.count(5), 1);
        x.set(5, 3, 9);
        due(38, "back(0) again", x.back(0), 12);
        due(38, "get(5, 3)", x.get(5, 3), 50);
        x.lose(0);
        x.order(4);
        due(38, "back(0) with another order", x.back(0), 12);
        due(38, "entry(5, 11)", x.entry(5, 11), 11);
        due(38, "about(0, 0) is dropped", x.about(0, 0), UNKNOWN);
        KeptOrders y = new KeptOrders();
        y.mark();
        y.order(1);
        y.fill(1, 64, 9);
        due(38, "back(0) to nothing", y.back(0), 0);
        due(38, "about(0, 1) of nothing", y.about(0, 1), 0);
        due(38, "row behind it", y.row(1, 1, 1, 1), 0);
        KeptOrders z = new KeptOrders();
        for (int i = 0; i < 10; i++) {
            z.row(i, 0, 0, 0);
        }
        z.mark();
        z.order(1);
        z.row(3, 0, 0, 0);
        z.drop(10);
        due(38, "leaf(0, 0) was cut", z.leaf(0, 0), 4);
        z.back(0);
        due(38, "leaf(0, 0) is packed though no row is another one", z.leaf(0, 0), 6);
    }

    private static void count() {
        KeptOrders x = ordered();
        x.lose(1);
        asked(x, ":a");
        x.mark();
        x.mark();
        write(x, "a=5");
        x.choose(1, 1);
        x.steps(1, 1);
        x.steps(1, 9);
        x.steps(1, 2);
        int[] want = {12, 3, 4, 5, 1, 2, 3, 1, 2};
        for (int what = 0; what < 9; what++) {
            due(39, "count(" + what + ")", x.count(what), want[what]);
        }
        due(39, "count(-1)", x.count(-1), OUTSIDE);
        due(39, "count(9)", x.count(9), OUTSIDE);
        due(39, "count(LOW)", x.count(LOW), OUTSIDE);
    }

    private static long fold(long h, long... numbers) {
        for (long v : numbers) {
            h = 31 * h + v;
        }
        return h;
    }

    private static void digest() {
        long h = fold(241, 4);
        for (int i = 0; i < 256; i++) {
            h = fold(h, -1);
        }
        h = fold(h, 0);
        for (int i = 0; i < 48; i++) {
            h = fold(h, -1);
        }
        h = fold(h, 0, 0, 0, 0, 0, 0, 0, 0, 0);
        due(40, "digest() of a new one", new KeptOrders().digest(), h);

        KeptOrders x = new KeptOrders();
        x.wide(7);
        x.row(1, 2, 3, 4);
        x.row(0, 6, 7, 8);
        x.order(1);
        x.order(2);
        x.order(7);
        x.lose(1);
        asked(x, "a=5&b<1&b>1:a/c");
        asked(x, "c>9:d");
        x.weight(1, 20);
        x.upkeep(9);
        x.picture(1);
        x.mark();
        write(x, "b=");
        x.choose(0, 0);
        x.steps(0, 0);
        x.steps(0, 0);
        h = fold(241, 7, 1, 2, 3, 4, 0, 6, 7, 8);
        for (int i = 0; i < 248; i++) {
            h = fold(h, -1);
        }
        h = fold(h, 1, 1, 0, 1, 0, 1, 0);
        h = fold(h, 7, 1, 0, 1, 0, 1, 0);
        h = fold(h, 5, 5, 0, -1, 0, 99, 0, 99, 1);
        h = fold(h, 0, 99, 0, 99, 10, 99, 0, 99, 20);
        h = fold(h, 9);
        for (int i = 0; i < 12; i++) {
            h = fold(h, -1);
        }
        h = fold(h, -1, -1, -1, 1, 2, 2, -1, -1, -1, 1, 6, 6);
        for (int i = 0; i < 24; i++) {
            h = fold(h, -1);
        }
        h = fold(h, 'b', '=');
        h = fold(h, 2, 1, 2, 3, 2, 1, 2, 1, 2);
        due(40, "digest()", x.digest(), h);
        due(40, "digest() again", x.digest(), h);
    }

    private static void constants() {
        due(0, "NONE", KeptOrders.NONE, -1);
        due(0, "UNKNOWN", KeptOrders.UNKNOWN, -101);
        due(0, "OUTSIDE", KeptOrders.OUTSIDE, -102);
        due(0, "STATE", KeptOrders.STATE, -103);
        due(0, "FULL", KeptOrders.FULL, -104);
    }
}
