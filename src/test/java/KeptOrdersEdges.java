import java.util.Arrays;
import java.util.function.ToLongFunction;

/**
 * Each sentence of the document that names a boundary, promise by promise: the last value that is taken and the
 * first that is refused, the empty and the full, each wrap-around. What refused calls leave alone is in KeptOrdersRefusals.
 */
public final class KeptOrdersEdges {
    private static final int NONE = -1, UNKNOWN = -101, OUTSIDE = -102, STATE = -103, FULL = -104;
    private static final int LOW = Integer.MIN_VALUE, HIGH = Integer.MAX_VALUE;
    private static int promise = 0;
    private static int wrong = 0;
    private static int checked = 0;

    public static void main(String[] args) {
        anEmptyTable();
        numbersOfARow();
        theLeastEmptySlot();
        aFullTable();
        numbersThatAreSet();
        rowsThatAreSet();
        aRowSetToWhatItWas();
        rowsThatGo();
        seedsOfFill();
        howManyFill();
        numbersBelowMost();
        fillUntilFull();
        slotsAndColumnsOfGet();
        widths();
        pageBorders();
        keys();
        keysToldAgain();
        eightOrders();
        entriesByKeyThenSlot();
        packedLeaves();
        sizesOfLostOrders();
        howMuchPackingSpares();
        heightsAndSizes();
        whatAboutTells();
        cutsAreCountedSinceTold();
        placesOfEntriesAndLeaves();
        roomOfALeaf();
        theLeafThatAnEntryComesInto();
        leavesRightBehind();
        leavesThatGo();
        codesOfLetters();
        lettersBehindAZero();
        sixtyLetters();
        blankPages();
        goodOfEachBeginning();
        goodOfWrongLetters();
        goodOfAnyLength();
        textsThatAreQuestions();
        textsThatAreNone();
        eightQuestions();
        boundsOfOneCondition();
        boundsOfSome();
        sidesAndColumnsOfBound();
        weights();
        answersWithinBounds();
        answersInOrder();
        answersOfNone();
        looksByTheTable();
        looksOfLeaves();
        looksWithoutEntries();
        whatMakesTheRun();
        whatMustBeFetched();
        eachPageOnce();
        waysByBoth();
        whatSortingCosts();
        whatSortsByItself();
        theBestOfLikeWays();
        setsOfBest();
        workOfSets();
        upkeeps();
        spaceOfChoose();
        likeOnesOfChoose();
        whatOfChoose();
        twentyChoices();
        spaceOfSteps();
        asLongAsWorkBecomesLess();
        whatOfSteps();
        twentyTimesStepByStep();
        ordersOfWorth();
        partsOfPictures();
        partsAsTheyWere();
        whatOfParts();
        boundsOfForetold();
        surelyPerhapsLikely();
        likelyRows();
        foretoldLooks();
        foretoldColumns();
        waysOfGuess();
        chosenOfLikeOnes();
        regrets();
        threeMarks();
        backToAMark();
        whatOfCount();
        digestWraps();
        System.out.println(wrong == 0 ? checked + " answers are as due" : wrong + " of " + checked + " answers are not as due");
        if (wrong != 0) {
            System.exit(1);
        }
    }

    private static void due(String call, long got, long want) {
        checked++;
        if (got != want) {
            wrong++;
            System.out.println("promise " + promise + ": " + call + " answered " + got + ", due is " + want);
        }
    }

    private static long packed(String letters) {
        long w = 0;
        for (int i = letters.length() - 1; i >= 0; i--) {
            w = w << 8 | letters.charAt(i);
        }
        return w;
    }

    private static void write(KeptOrders x, String text) {
        for (int from = 0; from < text.length(); from += 8) {
            x.letters(packed(text.substring(from, Math.min(text.length(), from + 8))));
        }
    }

    private static int asked(KeptOrders x, String text) {
        write(x, text);
        return x.ask();
    }

    /** An object with a row for each number, which is its a. */
    private static KeptOrders keyed(int... numbers) {
        KeptOrders x = new KeptOrders();
        for (int a : numbers) {
            x.row(a, 0, 0, 0);
        }
        return x;
    }

    /** n rows, of which a is the slot, b 99 less the slot, c 7 and d the slot modulo 2. */
    private static KeptOrders line(int n) {
        KeptOrders x = new KeptOrders();
        for (int s = 0; s < n; s++) {
            x.row(s, 99 - s, 7, s % 2);
        }
        return x;
    }

    /** A table with rows at these slots alone. */
    private static KeptOrders rowsAt(int... slots) {
        KeptOrders x = new KeptOrders();
        x.fill(1, 64, 100);
        for (int s = 0; s < 64; s++) {
            int slot = s;
            if (Arrays.stream(slots).noneMatch(kept -> kept == slot)) {
                x.drop(s);
            }
        }
        return x;
    }

    private static void leaves(String when, KeptOrders x, int order, int... sizes) {
        due("about(" + order + ", 1) " + when, x.about(order, 1), sizes.length);
        for (int i = 0; i < sizes.length; i++) {
            due("leaf(" + order + ", " + i + ") " + when, x.leaf(order, i), sizes[i]);
        }
        due("leaf behind the last " + when, x.leaf(order, sizes.length), NONE);
    }

    private static void entries(String when, KeptOrders x, int order, int... slots) {
        for (int i = 0; i < slots.length; i++) {
            due("entry(" + order + ", " + i + ") " + when, x.entry(order, i), slots[i]);
        }
        due("entry behind the last " + when, x.entry(order, slots.length), NONE);
    }

    // ---- promise 1

    private static void anEmptyTable() {
        promise = 1;
        KeptOrders x = new KeptOrders();
        for (int what = 0; what < 9; what++) {
            due("count(" + what + ")", x.count(what), 0);
        }
        for (int s = 0; s < 64; s++) {
            for (int c = 0; c < 4; c++) {
                due("get(" + s + ", " + c + ")", x.get(s, c), NONE);
            }
        }
        for (int i = 0; i < 8; i++) {
            due("about(" + i + ", 0)", x.about(i, 0), UNKNOWN);
            due("answers(" + i + ")", x.answers(i), UNKNOWN);
        }
        for (int c = 0; c < 4; c++) {
            for (int i = 0; i < 4; i++) {
                due("part(" + c + ", " + i + ", 0)", x.part(c, i, 0), NONE);
            }
            due("foretold(" + c + ", 0, 99, 0)", x.foretold(c, 0, 99, 0), NONE);
        }
        for (int m = 0; m < 3; m++) {
            due("back(" + m + ")", x.back(m), UNKNOWN);
        }
        due("wide(4): 4 at first", x.wide(4), 4);
        due("upkeep(0): 0 at first", x.upkeep(0), 0);
        due("blank()", x.blank(), 0);
        due("good()", x.good(), 0);
        due("ask()", x.ask(), STATE);
        due("work(0)", x.work(0), 0);
        due("work(255)", x.work(255), 0);
        due("choose(9999, 0)", x.choose(9999, 0), 0);
        due("steps(9999, 0)", x.steps(9999, 0), 0);
    }

    // ---- promises 2 to 7: rows

    private static int rowWith(KeptOrders x, int column, int v) {
        int[] numbers = {50, 50, 50, 50};
        numbers[column] = v;
        return x.row(numbers[0], numbers[1], numbers[2], numbers[3]);
    }

    private static void numbersOfARow() {
        promise = 2;
        for (int c = 0; c < 4; c++) {
            KeptOrders x = new KeptOrders();
            due("row with 0 in " + c, rowWith(x, c, 0), 0);
            due("row with 99 in " + c, rowWith(x, c, 99), 1);
            due("get(0, " + c + ")", x.get(0, c), 0);
            due("get(1, " + c + ")", x.get(1, c), 99);
            for (int v : new int[] {-1, 100, LOW, HIGH}) {
                due("row with " + v + " in " + c, rowWith(x, c, v), OUTSIDE);
            }
            due("count(0)", x.count(0), 2);
        }
    }

    private static void theLeastEmptySlot() {
        promise = 2;
        KeptOrders x = new KeptOrders();
        for (int s = 0; s < 64; s++) {
            due("row to " + s, x.row(s, 0, 0, 0), s);
        }
        for (int gap : new int[] {0, 1, 31, 32, 62, 63}) {
            x.drop(gap);
            due("row into the gap " + gap, x.row(9, 9, 9, 9), gap);
        }
        x.drop(63);
        x.drop(0);
        x.drop(32);
        due("row into the least of three gaps", x.row(1, 1, 1, 1), 0);
        due("row into the next", x.row(1, 1, 1, 1), 32);
        due("row into the last", x.row(1, 1, 1, 1), 63);
        due("row then", x.row(1, 1, 1, 1), FULL);
    }

    private static void aFullTable() {
        promise = 2;
        KeptOrders x = new KeptOrders();
        x.fill(1, 63, 100);
        due("row with 63 rows", x.row(1, 2, 3, 4), 63);
        due("row with 64 rows", x.row(1, 2, 3, 4), FULL);
        for (int c = 0; c < 4; c++) {
            due("row: OUTSIDE is told ahead of FULL", rowWith(x, c, 100), OUTSIDE);
            due("row: OUTSIDE below is told ahead of FULL", rowWith(x, c, -1), OUTSIDE);
        }
        due("count(0)", x.count(0), 64);
        x.drop(17);
        due("row when one went", x.row(1, 2, 3, 4), 17);
    }

    private static void numbersThatAreSet() {
        promise = 3;
        KeptOrders x = keyed(5);
        for (int c = 0; c < 4; c++) {
            int was = x.get(0, c);
            due("set(0, " + c + ", 99)", x.set(0, c, 99), was);
            due("set(0, " + c + ", 0)", x.set(0, c, 0), 99);
            due("set(0, " + c + ", 0) again", x.set(0, c, 0), 0);
            for (int v : new int[] {-1, 100, LOW, HIGH}) {
                due("set(0, " + c + ", " + v + ")", x.set(0, c, v), OUTSIDE);
            }
            due("get(0, " + c + ")", x.get(0, c), 0);
        }
    }

    private static void rowsThatAreSet() {
        promise = 3;
        KeptOrders x = rowsAt(0, 5, 63);
        due("get(63, 3) behind set", x.set(63, 3, 42) >= 0 ? x.get(63, 3) : UNKNOWN, 42);
        due("get(0, 0) behind set", x.set(0, 0, 43) >= 0 ? x.get(0, 0) : UNKNOWN, 43);
        for (int slot : new int[] {-1, 64, 1, 4, 6, 62, LOW, HIGH}) {
            due("set(" + slot + ", 0, 1): there is no ROW", x.set(slot, 0, 1), UNKNOWN);
            due("set(" + slot + ", 0, 100): UNKNOWN is told ahead of OUTSIDE", x.set(slot, 0, 100), UNKNOWN);
        }
        for (int column : new int[] {-1, 4, LOW, HIGH}) {
            due("set(5, " + column + ", 1)", x.set(5, column, 1), UNKNOWN);
            due("set(5, " + column + ", -1): UNKNOWN is told ahead of OUTSIDE", x.set(5, column, -1), UNKNOWN);
        }
        x.drop(5);
        due("set(5, 0, 1) of a ROW that went", x.set(5, 0, 1), UNKNOWN);
    }

    private static void aRowSetToWhatItWas() {
        promise = 3;
        KeptOrders x = keyed(10, 20, 30, 40, 50, 60, 70);
        x.order(1);
        x.order(4);
        leaves("packed", x, 0, 6, 1);
        leaves("packed", x, 1, 6, 1);
        due("set(6, 0, 70), as it was", x.set(6, 0, 70), 70);
        leaves("when its entry went and came", x, 0, 4, 3);
        leaves("of a KEY without that COLUMN", x, 1, 4, 3);
        due("set(6, 1, 0), of no KEY", x.set(6, 1, 0), 0);
        leaves("when it went and came once more", x, 0, 4, 3);
        KeptOrders y = keyed(10);
        y.order(1);
        y.set(0, 0, 10);
        leaves("of the only ROW, set", y, 0, 1);
        due("about(0, 4): it was not cut", y.about(0, 4), 0);
    }

    private static void rowsThatGo() {
        promise = 4;
        KeptOrders x = rowsAt(0, 5, 63);
        for (int slot : new int[] {-1, 64, 1, 4, 6, 62, LOW, HIGH}) {
            due("drop(" + slot + ")", x.drop(slot), UNKNOWN);
        }
        due("drop(63)", x.drop(63), 2);
        due("drop(63) again", x.drop(63), UNKNOWN);
        due("drop(0)", x.drop(0), 1);
        due("drop(5) of the last one", x.drop(5), 0);
        due("drop(5) of none", x.drop(5), UNKNOWN);
        due("get(5, 0)", x.get(5, 0), NONE);
        due("row then", x.row(1, 2, 3, 4), 0);
    }

    private static void seedsOfFill() {
        promise = 5;
        KeptOrders x = new KeptOrders();
        // SEED 0: 12345 by 65536 is 0, then 1406932606 by 65536 is 21468
        due("fill(0, 1, 100)", x.fill(0, 1, 100), 1);
        due("get(0, 0)", x.get(0, 0), 0);
        due("get(0, 1)", x.get(0, 1), 68);
        // 1103515245 times 2147483647 and 12345 is, of 31 figures, 2147483648 less 1103515245 and 12345: 1043980748
        due("fill(2147483647, 1, 100)", x.fill(HIGH, 1, 100), 1);
        due("get(1, 0): 15929 modulo 100", x.get(1, 0), 29);
        due("fill(-1, 1, 100)", x.fill(-1, 1, 100), OUTSIDE);
        due("fill(LOW, 1, 100)", x.fill(LOW, 1, 100), OUTSIDE);
        due("count(0)", x.count(0), 2);
        // the seed goes on from ROW to ROW, not from call to call
        KeptOrders y = new KeptOrders();
        y.fill(99, 2, 100);
        KeptOrders z = new KeptOrders();
        z.fill(99, 1, 100);
        z.fill(99, 1, 100);
        for (int c = 0; c < 4; c++) {
            long seed = 99;
            for (int i = 0; i < 5 + c; i++) {
                seed = seed * 1103515245L + 12345L & 0x7fffffffL;
            }
            due("get(1, " + c + ") of two at once", y.get(1, c), seed / 65536 % 100);
            due("get(1, " + c + ") of two calls", z.get(1, c), z.get(0, c));
        }
    }

    private static void howManyFill() {
        promise = 5;
        due("fill(1, 1, 100)", new KeptOrders().fill(1, 1, 100), 1);
        due("fill(1, 64, 100)", new KeptOrders().fill(1, 64, 100), 64);
        for (int n : new int[] {0, 65, -1, LOW, HIGH}) {
            KeptOrders x = new KeptOrders();
            due("fill(1, " + n + ", 100)", x.fill(1, n, 100), OUTSIDE);
            due("count(0)", x.count(0), 0);
        }
    }

    private static void numbersBelowMost() {
        promise = 5;
        KeptOrders x = new KeptOrders();
        due("fill(1, 1, 1)", x.fill(1, 1, 1), 1);
        due("fill(1, 1, 100)", x.fill(1, 1, 100), 1);
        // 16838, 5758, 10113, 17515 are the first of SEED 1
        int[] hundredth = {38, 58, 13, 15};
        for (int c = 0; c < 4; c++) {
            due("get(0, " + c + ") below 1", x.get(0, c), 0);
            due("get(1, " + c + ") below 100", x.get(1, c), hundredth[c]);
        }
        for (int most : new int[] {0, 101, -1, LOW, HIGH}) {
            due("fill(1, 1, " + most + ")", x.fill(1, 1, most), OUTSIDE);
        }
        due("count(0)", x.count(0), 2);
    }

    private static void fillUntilFull() {
        promise = 5;
        KeptOrders x = new KeptOrders();
        x.fill(1, 62, 100);
        due("fill(2, 2, 100): just as many as are empty", x.fill(2, 2, 100), 2);
        x.drop(40);
        due("fill(2, 2, 100): one more than are empty", x.fill(2, 2, 100), 1);
        long before = x.digest();
        due("fill(2, 1, 100) of a full table", x.fill(2, 1, 100), 0);
        due("fill(2, 64, 100) of a full table", x.fill(2, 64, 100), 0);
        due("fill(2, 65, 100) of a full table", x.fill(2, 65, 100), OUTSIDE);
        due("digest() then", x.digest(), before);
        x.drop(3);
        x.drop(50);
        x.fill(1, 64, 100);
        due("get(3, 0): the first came into the least gap", x.get(3, 0), 38);
        due("get(50, 0): the second into the next", x.get(50, 0), 31051 % 100);
    }

    private static void slotsAndColumnsOfGet() {
        promise = 6;
        KeptOrders x = new KeptOrders();
        x.fill(1, 64, 100);
        x.set(63, 3, 99);
        x.set(0, 0, 0);
        due("get(63, 3)", x.get(63, 3), 99);
        due("get(0, 0)", x.get(0, 0), 0);
        x.drop(63);
        due("get(63, 3): the SLOT is empty", x.get(63, 3), NONE);
        for (int slot : new int[] {-1, 64, LOW, HIGH}) {
            due("get(" + slot + ", 0)", x.get(slot, 0), UNKNOWN);
        }
        for (int column : new int[] {-1, 4, LOW, HIGH}) {
            due("get(0, " + column + ")", x.get(0, column), UNKNOWN);
            due("get(63, " + column + "): of an empty SLOT too", x.get(63, column), UNKNOWN);
        }
    }

    private static void widths() {
        promise = 7;
        KeptOrders x = new KeptOrders();
        due("wide(2)", x.wide(2), 4);
        due("wide(8)", x.wide(8), 2);
        for (int v : new int[] {1, 9, 0, -1, LOW, HIGH}) {
            due("wide(" + v + ")", x.wide(v), OUTSIDE);
        }
        due("wide(8), as it was", x.wide(8), 8);
    }

    private static void pageBorders() {
        promise = 7;
        for (int v = 2; v <= 8; v++) {
            KeptOrders x = rowsAt(v - 1, v);
            x.wide(v);
            due("count(1): the last SLOT of a PAGE and the first of the next, at " + v, x.count(1), 2);
            KeptOrders y = rowsAt(v, 2 * v - 1);
            y.wide(v);
            due("count(1): the first and the last SLOT of a PAGE, at " + v, y.count(1), 1);
            KeptOrders z = rowsAt(62, 63);
            z.wide(v);
            due("count(1): the last two SLOTS, at " + v, z.count(1), v == 3 || v == 7 ? 2 : 1);
            KeptOrders w = new KeptOrders();
            w.wide(v);
            due("count(1) of no ROWS, at " + v, w.count(1), 0);
            w.fill(1, 64, 100);
            due("count(1) of all, at " + v, w.count(1), (63 + v) / v);
        }
    }

    // ---- promises 8 to 13: orders

    private static final int[] KEYS = {
        1, 2, 3, 4, 7, 8, 9, 11, 13, 14, 16, 17, 19, 21, 22, 23, 38, 39, 42, 44, 47, 48, 58, 59, 66, 69, 71, 73,
        82, 84, 86, 89, 96, 97, 107, 108, 111, 113, 116, 117};

    private static void keys() {
        promise = 8;
        for (int key = -700; key <= 700; key++) {
            boolean isOne = Arrays.binarySearch(KEYS, key) >= 0;
            KeptOrders x = new KeptOrders();
            due("order(" + key + ")", x.order(key), isOne ? 0 : OUTSIDE);
            due("count(3) behind it", x.count(3), isOne ? 1 : 0);
            due("about(0, 0) behind it", x.about(0, 0), isOne ? key : UNKNOWN);
        }
        due("order(LOW)", new KeptOrders().order(LOW), OUTSIDE);
        due("order(HIGH)", new KeptOrders().order(HIGH), OUTSIDE);
    }

    private static void keysToldAgain() {
        promise = 8;
        KeptOrders x = new KeptOrders();
        due("order(7)", x.order(7), 0);
        due("order(7) again", x.order(7), STATE);
        due("order(11), of the same COLUMNS", x.order(11), 1);
        x.lose(0);
        due("order(7): the one with that KEY is dropped", x.order(7), 2);
        due("order(7): now it stands again", x.order(7), STATE);
        x.lose(2);
        due("order(7): both are dropped", x.order(7), 3);
    }

    private static void eightOrders() {
        promise = 8;
        KeptOrders x = new KeptOrders();
        for (int i = 0; i < 7; i++) {
            due("order(" + KEYS[i] + ")", x.order(KEYS[i]), i);
        }
        due("order(117) with seven", x.order(117), 7);
        due("order(116) with eight", x.order(116), FULL);
        due("order(0): OUTSIDE is told ahead of FULL", x.order(0), OUTSIDE);
        due("order(1): STATE is told ahead of FULL", x.order(1), STATE);
        due("order(117): STATE of the last one", x.order(117), STATE);
        for (int i = 0; i < 8; i++) {
            x.lose(i);
        }
        due("order(1): dropped ones keep their numbers", x.order(1), FULL);
        due("count(2)", x.count(2), 0);
        due("count(3)", x.count(3), 8);
    }

    private static void entriesByKeyThenSlot() {
        promise = 8;
        KeptOrders x = new KeptOrders();
        x.row(0, 99, 1, 0);
        x.row(99, 0, 1, 0);
        x.row(0, 99, 0, 1);
        x.row(0, 0, 1, 1);
        x.order(1);
        x.order(2);
        x.order(7);
        x.order(38);
        x.order(4 * 25 + 3 * 5 + 2);
        x.order(4 * 25 + 3 * 5 + 1);
        entries("by a, like ones by SLOT", x, 0, 0, 2, 3, 1);
        entries("by b, like ones by SLOT", x, 1, 1, 3, 0, 2);
        entries("by a and b", x, 2, 3, 0, 2, 1);
        entries("by a, b and c", x, 3, 3, 2, 0, 1);
        entries("by d, c and b", x, 4, 1, 0, 2, 3);
        entries("by d, c and a", x, 5, 0, 1, 2, 3);
        KeptOrders y = keyed(5, 5, 5);
        y.order(38);
        entries("of like ROWS", y, 0, 0, 1, 2);
    }

    private static void packedLeaves() {
        promise = 8;
        int[] keysOfRoom = {1, 7, 38};
        int[] rooms = {6, 4, 3};
        for (int k = 0; k < 3; k++) {
            int room = rooms[k];
            for (int n : new int[] {0, 1, room - 1, room, room + 1, 2 * room, 2 * room + 1, 64}) {
                KeptOrders x = line(n);
                x.order(keysOfRoom[k]);
                int[] sizes = new int[(n + room - 1) / room];
                Arrays.fill(sizes, room);
                if (n % room > 0) {
                    sizes[sizes.length - 1] = n % room;
                }
                leaves("of " + n + " by " + room, x, 0, sizes);
                due("about(0, 4): none was cut", x.about(0, 4), 0);
            }
        }
    }

    private static void sizesOfLostOrders() {
        promise = 9;
        int[] rows = {0, 1, 6, 7, 24, 25, 64};
        int[] sizes = {0, 1, 1, 3, 5, 8, 15};
        for (int i = 0; i < rows.length; i++) {
            KeptOrders x = line(rows[i]);
            x.order(1);
            due("lose(0) of " + rows[i] + " rows", x.lose(0), sizes[i]);
            due("lose(0) again", x.lose(0), UNKNOWN);
        }
        KeptOrders x = new KeptOrders();
        due("lose(0) when none was told", x.lose(0), UNKNOWN);
        for (int i = 0; i < 8; i++) {
            x.order(KEYS[i]);
        }
        for (int order : new int[] {-1, 8, LOW, HIGH}) {
            due("lose(" + order + ")", x.lose(order), UNKNOWN);
        }
        due("lose(7)", x.lose(7), 0);
        due("lose(0)", x.lose(0), 0);
        due("count(2)", x.count(2), 6);
        x.row(1, 1, 1, 1);
        due("about(1, 1) of one that is kept", x.about(1, 1), 1);
        due("about(0, 1) of one that is dropped", x.about(0, 1), UNKNOWN);
    }

    private static void howMuchPackingSpares() {
        promise = 10;
        KeptOrders x = new KeptOrders();
        x.order(1);
        due("pack(0) of none", x.pack(0), 0);
        for (int a = 0; a < 7; a++) {
            x.row(a, 0, 0, 0);
        }
        leaves("cut", x, 0, 4, 3);
        due("pack(0) of as many LEAVES as before", x.pack(0), 0);
        leaves("packed", x, 0, 6, 1);
        due("pack(0) of a packed one", x.pack(0), 0);
        due("about(0, 4) is as it was", x.about(0, 4), 1);
        x.set(6, 0, 6);
        x.drop(6);
        leaves("with a gap", x, 0, 4, 2);
        due("pack(0) of two LEAVES that go into one", x.pack(0), 2);
        leaves("packed again", x, 0, 6);
        for (int order : new int[] {-1, 1, 8, LOW, HIGH}) {
            due("pack(" + order + ")", x.pack(order), UNKNOWN);
        }
        x.lose(0);
        due("pack(0) of a dropped one", x.pack(0), UNKNOWN);
    }

    private static void heightsAndSizes() {
        promise = 11;
        // by ROOM 3: LEAVES 0, 1, 2, 4, 5, 16, 17 and 22
        int[] rows = {0, 3, 4, 12, 13, 48, 49, 64};
        int[][] want = {{0, 0, 0}, {1, 0, 1}, {2, 1, 3}, {4, 1, 5}, {5, 2, 8}, {16, 2, 21}, {17, 3, 25}, {22, 3, 31}};
        for (int i = 0; i < rows.length; i++) {
            KeptOrders x = line(rows[i]);
            x.order(38);
            for (int what = 1; what < 4; what++) {
                due("about(0, " + what + ") of " + rows[i] + " rows", x.about(0, what), want[i][what - 1]);
            }
        }
    }

    private static void whatAboutTells() {
        promise = 11;
        KeptOrders x = line(7);
        x.order(117);
        due("about(0, 0)", x.about(0, 0), 117);
        due("about(0, 4)", x.about(0, 4), 0);
        for (int what : new int[] {-1, 5, LOW, HIGH}) {
            due("about(0, " + what + ")", x.about(0, what), OUTSIDE);
            due("about(1, " + what + "): UNKNOWN is told ahead of OUTSIDE", x.about(1, what), UNKNOWN);
        }
        for (int order : new int[] {-1, 1, 7, 8, LOW, HIGH}) {
            due("about(" + order + ", 0)", x.about(order, 0), UNKNOWN);
        }
        x.lose(0);
        due("about(0, 0) of a dropped one", x.about(0, 0), UNKNOWN);
        due("about(0, 5) of a dropped one", x.about(0, 5), UNKNOWN);
    }

    private static void cutsAreCountedSinceTold() {
        promise = 11;
        KeptOrders x = line(6);
        x.order(1);
        due("about(0, 4) of a full LEAF", x.about(0, 4), 0);
        x.row(50, 0, 0, 0);
        due("about(0, 4): it was cut", x.about(0, 4), 1);
        x.order(2);
        due("about(1, 4): told behind the cut", x.about(1, 4), 0);
        x.pack(0);
        x.set(6, 0, 50);
        due("about(0, 4): packed, and cut again", x.about(0, 4), 2);
        x.mark();
        x.back(0);
        due("about(0, 4): also behind back()", x.about(0, 4), 2);
        x.lose(0);
        x.order(1);
        due("about(2, 4): a new one of that KEY", x.about(2, 4), 0);
    }

    private static void placesOfEntriesAndLeaves() {
        promise = 12;
        KeptOrders x = line(64);
        x.order(2);
        x.order(39);
        due("entry(0, 0): the greatest SLOT has the least b", x.entry(0, 0), 63);
        due("entry(0, 63)", x.entry(0, 63), 0);
        for (int i : new int[] {64, -1, LOW, HIGH}) {
            due("entry(0, " + i + ")", x.entry(0, i), NONE);
            due("entry(2, " + i + ")", x.entry(2, i), UNKNOWN);
        }
        for (int order : new int[] {-1, 2, 8, LOW, HIGH}) {
            due("entry(" + order + ", 0)", x.entry(order, 0), UNKNOWN);
        }
        promise = 13;
        due("leaf(0, 0)", x.leaf(0, 0), 6);
        due("leaf(0, 10)", x.leaf(0, 10), 4);
        due("leaf(0, 11)", x.leaf(0, 11), NONE);
        due("leaf(1, 21)", x.leaf(1, 21), 1);
        due("leaf(1, 22)", x.leaf(1, 22), NONE);
        for (int i : new int[] {64, -1, LOW, HIGH}) {
            due("leaf(0, " + i + ")", x.leaf(0, i), NONE);
            due("leaf(2, " + i + ")", x.leaf(2, i), UNKNOWN);
        }
        for (int order : new int[] {-1, 2, 8, LOW, HIGH}) {
            due("leaf(" + order + ", 0)", x.leaf(order, 0), UNKNOWN);
        }
        x.lose(1);
        due("entry of a dropped one", x.entry(1, 0), UNKNOWN);
        due("leaf of a dropped one", x.leaf(1, 0), UNKNOWN);
        KeptOrders y = new KeptOrders();
        y.order(1);
        due("entry(0, 0) of no ROWS", y.entry(0, 0), NONE);
        due("leaf(0, 0) of no ROWS", y.leaf(0, 0), NONE);
    }

    private static void roomOfALeaf() {
        promise = 13;
        int[] keysOfRoom = {4, 23, 117};
        int[] rooms = {6, 4, 3};
        for (int k = 0; k < 3; k++) {
            KeptOrders x = new KeptOrders();
            x.order(keysOfRoom[k]);
            for (int n = 1; n <= rooms[k]; n++) {
                x.row(0, 0, 0, n);
                leaves("with " + n + " of " + rooms[k], x, 0, n);
            }
            due("about(0, 4) of a full LEAF", x.about(0, 4), 0);
            x.row(0, 0, 0, 99);
            int stay = (rooms[k] + 2) / 2;
            leaves("cut: the first half, rounded up, stays", x, 0, stay, rooms[k] + 1 - stay);
            due("about(0, 4) of one that was cut", x.about(0, 4), 1);
        }
    }

    private static void theLeafThatAnEntryComesInto() {
        promise = 13;
        int[] numbers = {10, 20, 30, 40, 50, 60, 70};
        int[] comes = {0, 10, 60, 65, 70, 71};
        int[][] want = {{4, 3, 1}, {4, 3, 1}, {4, 3, 1}, {4, 3, 1}, {6, 2}, {6, 2}};
        for (int i = 0; i < comes.length; i++) {
            KeptOrders x = keyed(numbers);
            x.order(1);
            x.row(comes[i], 0, 0, 0);
            leaves("when " + comes[i] + " came", x, 0, want[i]);
        }
        // a like number at a lesser SLOT is not behind the first ENTRY of the last LEAF
        KeptOrders y = keyed(99, 10, 20, 30, 40, 50, 60, 70);
        y.drop(0);
        y.order(1);
        leaves("packed", y, 0, 6, 1);
        due("row into SLOT 0", y.row(70, 0, 0, 0), 0);
        leaves("when it came ahead of the last LEAF", y, 0, 4, 3, 1);
        entries("then", y, 0, 1, 2, 3, 4, 5, 6, 0, 7);
        KeptOrders z = new KeptOrders();
        z.order(1);
        z.row(5, 0, 0, 0);
        leaves("when there was none", z, 0, 1);
    }

    private static void leavesRightBehind() {
        promise = 13;
        int[] comes = {0, 52, 99};
        int[][] want = {{4, 3, 6, 6}, {6, 4, 3, 6}, {6, 6, 4, 3}};
        for (int i = 0; i < 3; i++) {
            KeptOrders x = new KeptOrders();
            for (int s = 0; s < 18; s++) {
                x.row(5 * s + 5, 0, 0, 0);
            }
            x.order(1);
            x.row(comes[i], 0, 0, 0);
            leaves("when " + i + " was cut", x, 0, want[i]);
        }
    }

    private static void leavesThatGo() {
        promise = 13;
        for (int leaf = 0; leaf < 3; leaf++) {
            KeptOrders x = line(9);
            x.order(38);
            for (int i = 0; i < 3; i++) {
                x.drop(3 * leaf + i);
                if (i == 1) {
                    int[] sizes = {3, 3, 3};
                    sizes[leaf] = 1;
                    leaves("with one ENTRY left in " + leaf, x, 0, sizes);
                }
            }
            leaves("when " + leaf + " went", x, 0, 3, 3);
            due("entry(0, 5) then", x.entry(0, 5), leaf == 2 ? 5 : 8);
        }
        KeptOrders y = keyed(5);
        y.order(1);
        y.drop(0);
        leaves("when the only one went", y, 0);
        due("about(0, 2)", y.about(0, 2), 0);
        due("about(0, 3)", y.about(0, 3), 0);
        y.row(6, 0, 0, 0);
        leaves("when one came again", y, 0, 1);
    }

    // ---- promises 14 to 21: questions

    private static void codesOfLetters() {
        promise = 14;
        for (int place = 0; place < 8; place++) {
            long below = packed("aaaaaaaa".substring(0, place));
            for (int code : new int[] {1, 126}) {
                due("letters with " + code + " at " + place, new KeptOrders().letters(below | (long) code << 8 * place), place + 1);
            }
            for (int code : new int[] {127, 128, 255}) {
                KeptOrders x = new KeptOrders();
                due("letters with " + code + " at " + place, x.letters(below | (long) code << 8 * place), OUTSIDE);
                due("count(6): none came", x.count(6), 0);
            }
        }
        due("letters(0)", new KeptOrders().letters(0L), 0);
        due("letters(-1)", new KeptOrders().letters(-1L), OUTSIDE);
        due("letters(LOW)", new KeptOrders().letters(Long.MIN_VALUE), OUTSIDE);
        due("letters(HIGH)", new KeptOrders().letters(Long.MAX_VALUE), OUTSIDE);
        // the lowest byte comes first
        KeptOrders x = new KeptOrders();
        x.letters('a' | '<' << 8 | '7' << 16 | (long) ':' << 24 | (long) 'b' << 32);
        due("ask() of a<7:b", x.ask(), 0);
        due("bound(0, 0, 1)", x.bound(0, 0, 1), 6);
    }

    private static void lettersBehindAZero() {
        promise = 14;
        for (int zero = 0; zero < 7; zero++) {
            for (int behind = zero + 1; behind < 8; behind++) {
                KeptOrders x = new KeptOrders();
                long w = packed("aaaaaaaa".substring(0, zero)) | 97L << 8 * behind;
                due("letters with 0 at " + zero + " and a letter at " + behind, x.letters(w), OUTSIDE);
                due("letters with 0 from " + zero + " on", x.letters(packed("aaaaaaaa".substring(0, zero))), zero);
            }
        }
    }

    private static void sixtyLetters() {
        promise = 14;
        KeptOrders x = new KeptOrders();
        for (int i = 1; i <= 6; i++) {
            due("letters up to 48", x.letters(packed("abcdefgh")), 8 * i);
        }
        due("letters up to 52", x.letters(packed("abcd")), 52);
        due("eight up to 60", x.letters(packed("abcdefgh")), 60);
        due("none at 60", x.letters(0L), 60);
        due("one above 60", x.letters(packed("a")), FULL);
        due("letters: OUTSIDE is told ahead of FULL", x.letters(127L), OUTSIDE);
        due("letters behind a 0: OUTSIDE is told ahead of FULL", x.letters(97L << 8), OUTSIDE);
        due("count(6)", x.count(6), 60);
        x.blank();
        for (int i = 0; i < 53; i++) {
            x.letters(packed("b"));
        }
        due("eight at 53", x.letters(packed("abcdefgh")), FULL);
        due("count(6): none of them came", x.count(6), 53);
        due("seven at 53", x.letters(packed("abcdefg")), 60);
    }

    private static void blankPages() {
        promise = 15;
        KeptOrders x = new KeptOrders();
        due("blank() of an empty one", x.blank(), 0);
        x.letters(packed("a"));
        due("blank() of one letter", x.blank(), 1);
        for (int i = 0; i < 60; i++) {
            x.letters(packed(":"));
        }
        due("blank() of a full one", x.blank(), 60);
        due("blank() again", x.blank(), 0);
        due("letters behind it", x.letters(packed(":a")), 2);
        due("good() behind it", x.good(), 2);
    }

    private static final String WHOLE = "a<1&b=23&c>45&d=67&a>8:dcba/d";

    private static void goodOfEachBeginning() {
        promise = 16;
        due("good() of an empty page", new KeptOrders().good(), 0);
        for (int n = 1; n <= WHOLE.length(); n++) {
            KeptOrders x = new KeptOrders();
            write(x, WHOLE.substring(0, n));
            due("good() of " + WHOLE.substring(0, n), x.good(), n);
            due("count(6): they stay", x.count(6), n);
            x.letters(packed("~"));
            due("good() with a wrong letter behind " + n, x.good(), n);
        }
    }

    private static int good(String text) {
        KeptOrders x = new KeptOrders();
        write(x, text);
        return x.good();
    }

    private static void goodOfWrongLetters() {
        promise = 16;
        // each place of a text, with what alone may stand there
        String[] ahead = {"", "a", "a=", "a=5", "a=55", "a=5&", ":", ":a", ":ab", ":abc", ":abcd", ":a/", ":a/b"};
        String[] may = {"abcd:", "<=>", "0123456789", "0123456789&:", "&:", "abcd", "abcd", "bcd/", "cd/", "d/", "/", "abcd", ""};
        for (int i = 0; i < ahead.length; i++) {
            for (char letter = 1; letter <= 126; letter++) {
                int want = ahead[i].length() + (may[i].indexOf(letter) >= 0 ? 1 : 0);
                due("good() of " + ahead[i] + " and letter " + (int) letter, good(ahead[i] + letter), want);
            }
        }
        due("good() of letters behind a wrong one", good("a=x:a"), 2);
        due("good() of a first wrong one", good("xa=5:a"), 0);
    }

    private static final String FULL_PAGE = "a=1&b=2&c=3&d=4&a=1&b=2&c=3&d=4&a=1&b=2&c=3&a=14&a=15:abcd/a";

    private static void goodOfAnyLength() {
        promise = 16;
        String conditions = "a=1&b=2&c=3&d=4&a=1&b=2&c=3&d=4&a=1&b=2&c=3&d=4&a=1&b=2&c=3&";
        due("good() of 60 letters that must go on", good(conditions.substring(0, 60)), 60);
        due("good() of 60 letters that end in a name", good(("a=10&" + conditions).substring(0, 60)), 60);
        due("good() of 60 letters that are a text", good(FULL_PAGE), 60);
        due("good() of 60 letters, the last one wrong", good(conditions.substring(0, 59) + "!"), 59);
    }

    private static void textsThatAreQuestions() {
        promise = 17;
        String[] texts = {
            ":a", ":d", ":abcd", ":dcba", ":ab/a", ":a/d", "a=0:a", "a=99:a", "d<00:a", "a>5&a>5&a>5:a", "b=5&b=6:c/b", WHOLE, FULL_PAGE};
        for (String text : texts) {
            KeptOrders x = new KeptOrders();
            due("ask() of " + text, asked(x, text), 0);
            due("count(6): the page is empty then", x.count(6), 0);
            due("count(4)", x.count(4), 1);
        }
        due("letters of the longest one", FULL_PAGE.length(), 60);
    }

    private static void textsThatAreNone() {
        promise = 17;
        String[] texts = {
            "", ":", "a", "a=", "a=5", "a=55", "a=5&", "a=5&b", "a=5:", "a=5&:a", "&:a", "&a=5:a", "a=5&&b=5:a", ":aa", ":abcda", ":abca",
            ":a/", ":/a", ":a/a/", ":a/ab", ":a/e", ":e", ":A", "A=5:a", "e=5:a", "a=555:a", "a=:a", "a5:a", "a==5:a", "a<=5:a", "=5:a",
            "5=a:a", "a=5b=5:a", "a=5::a", ":a:a", ":a ", " :a", "a=-5:a", ":ab/a/b", "a=5:a&b=5"};
        for (String text : texts) {
            KeptOrders x = new KeptOrders();
            due("ask() of " + text, asked(x, text), STATE);
            due("count(6): the page stays", x.count(6), text.length());
            due("count(4)", x.count(4), 0);
        }
    }

    private static void eightQuestions() {
        promise = 17;
        KeptOrders x = new KeptOrders();
        for (int i = 0; i < 7; i++) {
            due("ask()", asked(x, "a=" + i + ":a"), i);
        }
        due("ask() with seven", asked(x, "a=7:a"), 7);
        due("ask() with eight", asked(x, "a=8:a"), FULL);
        due("count(6): the page stays", x.count(6), 5);
        x.letters(packed("x"));
        due("ask(): STATE is told ahead of FULL", x.ask(), STATE);
        x.blank();
        due("ask() of an empty page: STATE is told ahead of FULL", x.ask(), STATE);
        for (int i = 0; i < 8; i++) {
            due("bound(" + i + ", 0, 0)", x.bound(i, 0, 0), i);
        }
        due("bound(8, 0, 0)", x.bound(8, 0, 0), UNKNOWN);
    }

    private static void boundsOfOneCondition() {
        promise = 18;
        String[] conditions = {"<0", "<00", "<1", "<2", "<99", "=0", "=00", "=5", "=05", "=99", ">0", ">98", ">97", ">99"};
        int[][] want = {
            {0, -1}, {0, -1}, {0, 0}, {0, 1}, {0, 98}, {0, 0}, {0, 0}, {5, 5}, {5, 5}, {99, 99}, {1, 99}, {99, 99}, {98, 99}, {0, -1}};
        for (int i = 0; i < conditions.length; i++) {
            for (int c = 0; c < 4; c++) {
                KeptOrders x = new KeptOrders();
                asked(x, (char) ('a' + c) + conditions[i] + ":a");
                for (int other = 0; other < 4; other++) {
                    due("least of " + other + " with " + c + conditions[i], x.bound(0, other, 0), other == c ? want[i][0] : 0);
                    due("greatest of " + other + " with " + c + conditions[i], x.bound(0, other, 1), other == c ? want[i][1] : 99);
                }
            }
        }
    }

    private static void boundsOfSome() {
        promise = 18;
        String[] conditions = {
            "a=5&a=5", "a=5&a=6", "a=6&a=5", "a>5&a<7", "a<7&a>5", "a>5&a<6", "a>5&a<8", "a>4&a=5", "a>5&a=5", "a<5&a=5", "a<6&a=5",
            "a>3&a>7", "a>7&a>3", "a<3&a<7", "a<7&a<3", "a>99&a<0", "a=0&a<0", "a=99&a>99", "a<1&a>0", "a>5&a<7&a<6"};
        int[][] want = {
            {5, 5}, {0, -1}, {0, -1}, {6, 6}, {6, 6}, {0, -1}, {6, 7}, {5, 5}, {0, -1}, {0, -1}, {5, 5},
            {8, 99}, {8, 99}, {0, 2}, {0, 2}, {0, -1}, {0, -1}, {0, -1}, {0, -1}, {0, -1}};
        for (int i = 0; i < conditions.length; i++) {
            KeptOrders x = new KeptOrders();
            asked(x, conditions[i] + ":b");
            due("least of " + conditions[i], x.bound(0, 0, 0), want[i][0]);
            due("greatest of " + conditions[i], x.bound(0, 0, 1), want[i][1]);
        }
    }

    private static void sidesAndColumnsOfBound() {
        promise = 18;
        KeptOrders x = new KeptOrders();
        asked(x, "d=7:a");
        asked(x, "d<0:a");
        due("bound(0, 3, 0)", x.bound(0, 3, 0), 7);
        due("bound(0, 0, 1)", x.bound(0, 0, 1), 99);
        for (int side : new int[] {-1, 2, LOW, HIGH}) {
            due("bound(0, 0, " + side + ")", x.bound(0, 0, side), OUTSIDE);
            due("bound(1, 3, " + side + ") of BOUNDS that let none", x.bound(1, 3, side), OUTSIDE);
            due("bound(2, 0, " + side + "): UNKNOWN is told ahead of OUTSIDE", x.bound(2, 0, side), UNKNOWN);
            due("bound(0, 4, " + side + "): UNKNOWN is told ahead of OUTSIDE", x.bound(0, 4, side), UNKNOWN);
        }
        for (int column : new int[] {-1, 4, LOW, HIGH}) {
            due("bound(0, " + column + ", 0)", x.bound(0, column, 0), UNKNOWN);
        }
        for (int question : new int[] {-1, 2, 8, LOW, HIGH}) {
            due("bound(" + question + ", 0, 0)", x.bound(question, 0, 0), UNKNOWN);
        }
    }

    private static void weights() {
        promise = 19;
        KeptOrders x = new KeptOrders();
        due("weight(0, 1) when none was asked", x.weight(0, 1), UNKNOWN);
        asked(x, ":a");
        due("weight(0, 0): 1 at first", x.weight(0, 0), 1);
        due("weight(0, 99)", x.weight(0, 99), 0);
        for (int v : new int[] {-1, 100, LOW, HIGH}) {
            due("weight(0, " + v + ")", x.weight(0, v), OUTSIDE);
            due("weight(1, " + v + "): UNKNOWN is told ahead of OUTSIDE", x.weight(1, v), UNKNOWN);
        }
        for (int question : new int[] {-1, 1, 8, LOW, HIGH}) {
            due("weight(" + question + ", 5)", x.weight(question, 5), UNKNOWN);
        }
        due("weight(0, 99), as it was", x.weight(0, 99), 99);
    }

    private static void answersWithinBounds() {
        promise = 20;
        KeptOrders x = line(10);
        String[] texts = {"a=4:a", "a<4:a", "a>4:a", "a>3&a<7:a", "a<0:a", "a=5&b=94:a", "a=5&b=95:a", ":a"};
        int[][] want = {{4}, {0, 1, 2, 3}, {5, 6, 7, 8, 9}, {4, 5, 6}, {}, {5}, {}, {0, 1, 2, 3, 4, 5, 6, 7, 8, 9}};
        for (int q = 0; q < texts.length; q++) {
            asked(x, texts[q]);
            promise = 20;
            due("answers() of " + texts[q], x.answers(q), want[q].length);
            promise = 21;
            for (int i = 0; i < want[q].length; i++) {
                due("answer(" + i + ") of " + texts[q], x.answer(q, i), want[q][i]);
            }
            for (int i : new int[] {-1, want[q].length, LOW, HIGH}) {
                due("answer(" + i + ") of " + texts[q], x.answer(q, i), NONE);
            }
        }
        for (int question : new int[] {-1, 8, LOW, HIGH}) {
            promise = 20;
            due("answers(" + question + ")", x.answers(question), UNKNOWN);
            promise = 21;
            due("answer(" + question + ", 0)", x.answer(question, 0), UNKNOWN);
            due("answer(" + question + ", -1)", x.answer(question, -1), UNKNOWN);
        }
    }

    private static void answersInOrder() {
        promise = 21;
        KeptOrders x = line(64);
        asked(x, ":a");
        asked(x, ":a/b");
        asked(x, ":a/c");
        asked(x, ":a/d");
        due("answers(0) of all", x.answers(0), 64);
        for (int i = 0; i < 64; i += 21) {
            due("answer(0, " + i + "): by SLOT", x.answer(0, i), i);
            due("answer(1, " + i + "): by b", x.answer(1, i), 63 - i);
            due("answer(2, " + i + "): like ones by SLOT", x.answer(2, i), i);
            due("answer(3, " + i + "): by d, like ones by SLOT", x.answer(3, i), i < 32 ? 2 * i : 2 * i - 63);
        }
        for (int q = 0; q < 4; q++) {
            due("answer(" + q + ", 64)", x.answer(q, 64), NONE);
        }
    }

    private static void answersOfNone() {
        promise = 20;
        KeptOrders x = new KeptOrders();
        asked(x, ":a");
        asked(x, ":a/b");
        for (int q = 0; q < 2; q++) {
            due("answers(" + q + ") of no ROWS", x.answers(q), 0);
            due("answer(" + q + ", 0) of no ROWS", x.answer(q, 0), NONE);
        }
        due("answers(2)", x.answers(2), UNKNOWN);
        x.row(1, 1, 1, 1);
        due("answers(0) of one", x.answers(0), 1);
        x.drop(0);
        due("answers(0) when it went", x.answers(0), 0);
    }

    // ---- promises 22 to 29: ways

    private static void looksByTheTable() {
        promise = 22;
        KeptOrders x = new KeptOrders();
        asked(x, "a=1:a");
        due("looks(0, 0) of no ROWS", x.looks(0, 0), 0);
        x.row(2, 0, 0, 0);
        due("looks(0, 0) of one PAGE without an answer", x.looks(0, 0), 1);
        x.fill(1, 64, 100);
        due("looks(0, 0) of all", x.looks(0, 0), 16);
        x.wide(2);
        due("looks(0, 0) at 2", x.looks(0, 0), 32);
        x.wide(8);
        due("looks(0, 0) at 8", x.looks(0, 0), 8);
    }

    private static void looksOfLeaves() {
        promise = 22;
        KeptOrders x = line(18);
        x.order(1);
        // LEAVES 0 to 5, 6 to 11, 12 to 17; HEIGHT 1
        String[] texts = {"a=5:a", "a=6:a", "a>5&a<12:a", "a>4&a<12:a", "a>5&a<13:a", "a>4&a<13:a", ":a", "a>17:a"};
        int[] want = {1 + 1, 1 + 1, 1 + 1, 1 + 2, 1 + 2, 1 + 3, 1 + 3, 1 + 1};
        for (int q = 0; q < texts.length; q++) {
            asked(x, texts[q]);
            due("looks of " + texts[q], x.looks(q, 1), want[q]);
        }
    }

    private static void looksWithoutEntries() {
        promise = 22;
        KeptOrders x = new KeptOrders();
        x.order(1);
        x.order(2);
        asked(x, "a=5:ac");
        asked(x, "a<0:a");
        asked(x, ":a");
        for (int q = 0; q < 3; q++) {
            due("looks(" + q + ", 1) without a LEAF", x.looks(q, 1), 0);
            due("looks(" + q + ", 101) without a LEAF", x.looks(q, 101), 0);
        }
        x.row(6, 6, 6, 6);
        due("looks(0, 1): no ENTRY in THE RUN, yet a LEAF", x.looks(0, 1), 1);
        due("looks(1, 1): BOUNDS let none", x.looks(1, 1), 1);
        due("looks(2, 1): an ENTRY", x.looks(2, 1), 1);
        due("looks(0, 101): one LEAF of each, no PAGE", x.looks(0, 101), 2);
        for (int s = 1; s < 7; s++) {
            x.row(6, 6, 6, 6);
        }
        due("looks(0, 1) with HEIGHT 1", x.looks(0, 1), 2);
        due("looks(0, 101) with HEIGHT 1: a has none, b all", x.looks(0, 101), 2 + 3);
    }

    /** 64 rows, a 0 or 1, b 0 to 3, c 0 to 7; orders abc and a. */
    private static KeptOrders threeDeep() {
        KeptOrders x = new KeptOrders();
        for (int s = 0; s < 64; s++) {
            x.row(s / 32, s / 8 % 4, s % 8, 0);
        }
        x.order(38);
        x.order(1);
        return x;
    }

    private static void whatMakesTheRun() {
        promise = 23;
        String[] texts = {":a", "a=1:a", "a<1:a", "a>0&b=2:a", "a<2&b=2:a", "a=1&b>1:a", "a=1&b>1&c=3:a", "a=1&b=2&c<3:a", "a=1&b=2&c=3:a"};
        int[] want = {64, 32, 32, 32, 64, 16, 16, 3, 1};
        int[] wantOfA = {64, 32, 32, 32, 64, 32, 32, 32, 32};
        for (int i = 0; i < texts.length; i++) {
            KeptOrders x = threeDeep();
            due("ask() of " + texts[i], asked(x, texts[i]), 0);
            due("run of " + texts[i], x.run(0, 0), want[i]);
            due("run by a of " + texts[i], x.run(0, 1), wantOfA[i]);
        }
        KeptOrders y = threeDeep();
        due("run of b = 2: a is not bound", y.run(asked(y, "b=2:a"), 0), 64);
        due("run of a = 1 and c = 3: b is not bound", y.run(asked(y, "a=1&c=3:a"), 0), 32);
        due("run of BOUNDS that let none", y.run(asked(y, "a=1&a=0:a"), 0), 0);
        due("run of BOUNDS that let none behind a fixed COLUMN", y.run(asked(y, "a=1&b<0:a"), 0), 0);
        due("run of BOUNDS that let none, with b fixed", y.run(asked(y, "a<0&b=1:a"), 0), 0);
        for (int question : new int[] {-1, 5, 8, LOW, HIGH}) {
            due("run(" + question + ", 0)", y.run(question, 0), UNKNOWN);
        }
        for (int order : new int[] {-1, 2, 8, LOW, HIGH}) {
            due("run(0, " + order + ")", y.run(0, order), UNKNOWN);
        }
        y.lose(1);
        due("run(0, 1) of a dropped one", y.run(0, 1), UNKNOWN);
    }

    private static void whatMustBeFetched() {
        promise = 22;
        KeptOrders x = line(8);
        x.order(1);
        x.order(7);
        // 8 ROWS on two PAGES; the LEAVES of a are 6 and 2, of ab 4 and 4
        String[] texts = {":a", ":ab", "b>0:a", ":a/b", "b=99:a/b", "a=0:a", "a=0:ab", "a=0&d=0:a"};
        int[] want = {1 + 2, 1 + 2 + 2, 1 + 2 + 2, 1 + 2 + 2 + 8, 1 + 2 + 2, 1 + 1, 1 + 1 + 1, 1 + 1 + 1};
        int[] wantOfBoth = {1 + 2, 1 + 2, 1 + 2, 1 + 2 + 8, 1 + 2, 1 + 1, 1 + 1, 1 + 1 + 1};
        for (int q = 0; q < texts.length; q++) {
            asked(x, texts[q]);
            due("looks by a of " + texts[q], x.looks(q, 1), want[q]);
            due("looks by a and b of " + texts[q], x.looks(q, 2), wantOfBoth[q]);
        }
    }

    private static void eachPageOnce() {
        promise = 22;
        KeptOrders x = line(8);
        x.order(1);
        asked(x, "a>2&a<5:d");
        asked(x, "a>3:d");
        asked(x, "a<4:d");
        due("looks(0, 1): SLOTS 3 and 4 on two PAGES", x.looks(0, 1), 1 + 1 + 2);
        due("looks(1, 1): SLOTS 4 to 7 on one PAGE", x.looks(1, 1), 1 + 2 + 1);
        due("looks(2, 1): SLOTS 0 to 3 on one PAGE", x.looks(2, 1), 1 + 1 + 1);
        // of THE RUN, what is within BOUNDS of all KEY COLUMNS: b is not in THE RUN, but in the KEY
        x.order(7);
        asked(x, "a<8&b=99:d");
        due("looks(3, 2): all LEAVES, one PAGE", x.looks(3, 2), 1 + 2 + 1);
        due("looks(3, 1): b is not in the KEY", x.looks(3, 1), 1 + 2 + 2);
    }

    private static void waysByBoth() {
        promise = 22;
        KeptOrders x = line(8);
        for (int i = 0; i < 8; i++) {
            x.order(KEYS[i]);
        }
        asked(x, "a=1&b=98:d");
        for (int o = 0; o < 8; o++) {
            due("looks(0, " + (1 + o) + ") is a WAY", x.looks(0, 1 + o) > 0 ? 1 : 0, 1);
            for (int p = 0; p < 10; p++) {
                int way = 100 + 10 * o + p;
                boolean isOne = o < p && p < 8;
                due("looks(0, " + way + ") is a WAY", x.looks(0, way) > 0 ? 1 : x.looks(0, way), isOne ? 1 : UNKNOWN);
            }
        }
        for (int way : new int[] {-1, 9, 10, 99, 178, 179, 180, 187, 200, LOW, LOW + 100, HIGH}) {
            due("looks(0, " + way + ")", x.looks(0, way), UNKNOWN);
        }
        due("looks(0, 101): HEIGHT and a LEAF of each, and a PAGE", x.looks(0, 101), 2 + 2 + 1);
        for (int question : new int[] {-1, 1, 8, LOW, HIGH}) {
            due("looks(" + question + ", 0)", x.looks(question, 0), UNKNOWN);
        }
        x.lose(1);
        for (int way : new int[] {2, 101, 112, 117}) {
            due("looks(0, " + way + ") of a dropped ORDER", x.looks(0, way), UNKNOWN);
        }
        due("looks(0, 102): the others stay", x.looks(0, 102), 2 + 3 + 1);
    }

    private static void whatSortingCosts() {
        promise = 22;
        KeptOrders x = line(8);
        x.order(1);
        x.order(2);
        asked(x, "a=99:a/c");
        asked(x, "a=3:a/c");
        asked(x, ":a/c");
        asked(x, "c=7:a/c");
        asked(x, "c>6&c<8:a/c");
        asked(x, "c<0:a/c");
        int[] more = {0, 1, 8, 0, 0, 0};
        for (int q = 0; q < 6; q++) {
            due("looks(" + q + ", 0)", x.looks(q, 0), 2 + more[q]);
        }
        due("looks(1, 101): sorted too", x.looks(1, 101), 2 + 3 + 1 + 1);
        due("looks(3, 101): c is FIXED", x.looks(3, 101), 3 + 3 + 2);
    }

    private static void whatSortsByItself() {
        promise = 22;
        KeptOrders x = line(8);
        x.order(7);
        x.order(2);
        // the two LEAVES of ab; the first COLUMN of the KEY that is not FIXED, then the others
        String[] texts = {":ab/a", ":ab/b", "a=3:ab/b", "a=3:ab/a", "a=3&b=96:ab/d", "a>2&a<5:ab/b", "a>2&a<5:ab/a", "a<0:ab/b"};
        int[] want = {1 + 2, 1 + 2 + 8, 1 + 1, 1 + 1, 1 + 1 + 1 + 1, 1 + 2 + 2, 1 + 2, 1 + 1};
        for (int q = 0; q < texts.length; q++) {
            asked(x, texts[q]);
            due("looks of " + texts[q], x.looks(q, 1), want[q]);
        }
        // by both, sorting is paid even where both ORDERS would bring it sorted
        due("looks(1, 101)", x.looks(1, 101), 3 + 3 + 2 + 8);
    }

    /** At 2 wide, a is 1 at SLOTS 0, 2, 4 and b at 0, 6, 8; of so many ROWS. */
    private static KeptOrders alike(int n) {
        KeptOrders x = new KeptOrders();
        x.wide(2);
        for (int s = 0; s < n; s++) {
            x.row(s == 0 || s == 2 || s == 4 ? 1 : 2, s == 0 || s == 6 || s == 8 ? 1 : 2, 0, 0);
        }
        x.order(1);
        x.order(2);
        asked(x, "a=1&b=1:d");
        return x;
    }

    private static void theBestOfLikeWays() {
        promise = 24;
        KeptOrders x = alike(12);
        int[] ways = {0, 1, 2, 101};
        int[] looks = {6, 5, 5, 5};
        for (int i = 0; i < 4; i++) {
            due("looks(0, " + ways[i] + ")", x.looks(0, ways[i]), looks[i]);
        }
        due("best(0, 3): of ORDERS and both the least number", x.best(0, 3), 1);
        due("best(0, 2)", x.best(0, 2), 2);
        due("best(0, 0)", x.best(0, 0), 0);
        KeptOrders y = alike(10);
        due("looks(0, 0) of ten", y.looks(0, 0), 5);
        due("best(0, 3): THE TABLE ahead of all", y.best(0, 3), 0);
        KeptOrders z = alike(12);
        z.lose(0);
        z.order(1);
        due("best(0, 6): the ORDER of lesser number", z.best(0, 6), 2);
        due("best(0, 4)", z.best(0, 4), 3);
        // both of a and b, and both of a and c, with fewer LOOKS than each alone
        KeptOrders w = new KeptOrders();
        for (int s = 0; s < 64; s++) {
            w.row(s % 8 == 0 ? 1 : 2, s == 0 || s % 8 == 1 && s > 8 ? 1 : 2, s == 0 || s % 8 == 1 && s > 8 ? 1 : 2, 0);
        }
        w.order(1);
        w.order(2);
        w.order(3);
        asked(w, "a=1&b=1&c=1:d");
        due("looks(0, 101)", w.looks(0, 101), w.looks(0, 102));
        due("best(0, 7): of both the least number", w.best(0, 7), 101);
        due("best(0, 5)", w.best(0, 5), 102);
        due("best(0, 2): by b alone", w.best(0, 2), 2);
    }

    private static void setsOfBest() {
        promise = 24;
        KeptOrders x = line(64);
        for (int i = 0; i < 8; i++) {
            x.order(KEYS[i]);
        }
        asked(x, "a=5:a");
        due("best(0, 0)", x.best(0, 0), 0);
        due("best(0, 255)", x.best(0, 255), 1);
        due("best(0, 254): by ab", x.best(0, 254), 5);
        due("best(0, 128): ba has all its LEAVES to look at", x.best(0, 128), 0);
        for (int set : new int[] {-1, 256, LOW, HIGH}) {
            due("best(0, " + set + ")", x.best(0, set), OUTSIDE);
            due("best(1, " + set + "): UNKNOWN is told ahead of OUTSIDE", x.best(1, set), UNKNOWN);
        }
        for (int question : new int[] {-1, 1, 8, LOW, HIGH}) {
            due("best(" + question + ", 0)", x.best(question, 0), UNKNOWN);
        }
        x.lose(0);
        due("best(0, 1) of a dropped one", x.best(0, 1), 0);
        due("best(0, 255): dropped ones do not count", x.best(0, 255), 5);
        KeptOrders y = line(64);
        asked(y, "a=5:a");
        due("best(0, 255) without ORDERS", y.best(0, 255), 0);
    }

    private static void workOfSets() {
        promise = 25;
        KeptOrders x = line(64);
        for (int i = 0; i < 8; i++) {
            x.order(KEYS[i]);
        }
        due("work(255) without QUESTIONS", x.work(255), 0);
        asked(x, "a=5:a");
        due("work(0)", x.work(0), 16);
        due("work(1)", x.work(1), 2 + 1);
        due("work(255)", x.work(255), 2 + 1);
        x.weight(0, 0);
        due("work(0) of WEIGHT 0", x.work(0), 0);
        x.weight(0, 99);
        due("work(0) of WEIGHT 99", x.work(0), 99 * 16);
        x.upkeep(99);
        due("work(0) of UPKEEP 99", x.work(0), 99 * 16);
        due("work(1) of UPKEEP 99: HEIGHT and 2", x.work(1), 99 * 3 + 99 * 4);
        due("work(255) of UPKEEP 99: eight ORDERS of HEIGHT 2", x.work(255), 99 * 3 + 99 * 8 * 4);
        due("work(128)", x.work(128), 99 * 16 + 99 * 4);
        for (int set : new int[] {-1, 256, LOW, HIGH}) {
            due("work(" + set + ")", x.work(set), OUTSIDE);
        }
        x.lose(0);
        due("work(1) of a dropped one", x.work(1), 99 * 16);
        KeptOrders y = new KeptOrders();
        y.upkeep(1);
        due("work(255): none was told", y.work(255), 0);
        y.order(1);
        due("work(1): HEIGHT 0, and 2", y.work(1), 2);
    }

    private static void upkeeps() {
        promise = 26;
        KeptOrders x = new KeptOrders();
        due("upkeep(99): 0 at first", x.upkeep(99), 0);
        due("upkeep(0)", x.upkeep(0), 99);
        for (int v : new int[] {-1, 100, LOW, HIGH}) {
            due("upkeep(" + v + ")", x.upkeep(v), OUTSIDE);
        }
        due("upkeep(5)", x.upkeep(5), 0);
    }

    private static void spaceOfChoose() {
        promise = 27;
        // by a, of SIZE 15: 2 and 1 for 16; by d and b, of SIZE 21: HEIGHT 2 and 8 LEAVES for 16
        KeptOrders x = line(64);
        x.order(1);
        x.order(22);
        asked(x, "a=5:a");
        asked(x, "d=0:d");
        due("about(0, 3)", x.about(0, 3), 15);
        due("about(1, 3)", x.about(1, 3), 21);
        due("choose(9999, 0)", x.choose(9999, 0), 3);
        due("choose(36, 0): SIZES together just as much", x.choose(36, 0), 3);
        due("choose(35, 0): one less", x.choose(35, 0), 1);
        due("choose(15, 0): the SIZE just as much", x.choose(15, 0), 1);
        due("choose(14, 0): one less", x.choose(14, 0), 0);
        due("choose(0, 0)", x.choose(0, 0), 0);
        due("choose(0, 2)", x.choose(0, 2), 0);
        due("choose(36, 2)", x.choose(36, 2), 36);
        for (int space : new int[] {-1, 10000, LOW, HIGH}) {
            due("choose(" + space + ", 0)", x.choose(space, 0), OUTSIDE);
        }
        due("count(7): refused ones are not counted", x.count(7), 8);
        x.lose(0);
        due("choose(9999, 0): not dropped ones alone", x.choose(9999, 0), 2);
    }

    private static void likeOnesOfChoose() {
        promise = 27;
        KeptOrders x = line(3);
        x.order(1);
        asked(x, "a=1:a");
        due("choose(9999, 0): WORK does not become less", x.choose(9999, 0), 0);
        // keys of three COLUMNS have SIZE 31 and HEIGHT 3, of two 21 and 2, of one 15 and 2; each looks at one LEAF
        KeptOrders y = line(64);
        y.order(42);
        y.order(38);
        asked(y, "a=5:a");
        due("looks(0, 1)", y.looks(0, 1), y.looks(0, 2));
        due("choose(9999, 0): of like SIZES the least number", y.choose(9999, 0), 1);
        y.order(7);
        y.order(8);
        due("choose(9999, 0): least WORK", y.choose(9999, 0), 4);
        y.order(1);
        due("looks(0, 5)", y.looks(0, 5), y.looks(0, 3));
        due("choose(9999, 0): of like WORK least SIZES, though its number is more", y.choose(9999, 0), 16);
        due("choose(9999, 2)", y.choose(9999, 2), 15);
        due("choose(14, 0)", y.choose(14, 0), 0);
        due("choose(20, 1)", y.choose(20, 1), 3);
    }

    private static void whatOfChoose() {
        promise = 27;
        KeptOrders x = line(64);
        x.order(1);
        asked(x, "a=5:a");
        int[] want = {1, 3, 15};
        for (int what = 0; what < 3; what++) {
            due("choose(9999, " + what + ")", x.choose(9999, what), want[what]);
        }
        for (int what : new int[] {-1, 3, 10, LOW, HIGH}) {
            due("choose(9999, " + what + ")", x.choose(9999, what), OUTSIDE);
        }
        due("count(7)", x.count(7), 3);
    }

    private static void twentyTimes(KeptOrders x, String name, ToLongFunction<KeptOrders> call, long want, int what) {
        for (int i = x.count(what); i < 20; i++) {
            due(name + " for the time " + (i + 1), call.applyAsLong(x), want);
            due("count(" + what + ")", x.count(what), i + 1);
        }
        due(name + " for the time 21", call.applyAsLong(x), STATE);
        due(name + " for the time 22", call.applyAsLong(x), STATE);
        due("count(" + what + ")", x.count(what), 20);
    }

    private static void twentyChoices() {
        promise = 27;
        KeptOrders x = line(64);
        x.order(1);
        asked(x, "a=5:a");
        x.choose(9999, 0);
        x.choose(9999, 1);
        x.choose(9999, 2);
        x.choose(-1, 0);
        x.choose(0, 3);
        due("count(7): it counts whatever is read", x.count(7), 3);
        twentyTimes(x, "choose(9999, 2)", y -> y.choose(9999, 2), 15, 7);
        due("choose(-1, 0): OUTSIDE is told ahead of STATE", x.choose(-1, 0), OUTSIDE);
        due("choose(10000, 0): OUTSIDE is told ahead of STATE", x.choose(10000, 0), OUTSIDE);
        due("choose(0, 3): OUTSIDE is told ahead of STATE", x.choose(0, 3), OUTSIDE);
        x.mark();
        x.back(0);
        due("choose(0, 0): 20 times ever", x.choose(0, 0), STATE);
        due("steps(0, 0): it counts by itself", x.steps(0, 0), 0);
    }

    private static void spaceOfSteps() {
        promise = 28;
        KeptOrders x = line(64);
        x.order(1);
        x.order(22);
        asked(x, "a=5:a");
        asked(x, "d=0:d");
        due("steps(9999, 0)", x.steps(9999, 0), 3);
        due("steps(36, 0): it still goes in", x.steps(36, 0), 3);
        due("steps(35, 0): one less", x.steps(35, 0), 1);
        due("steps(15, 0): it just goes in", x.steps(15, 0), 1);
        due("steps(14, 0): none goes in", x.steps(14, 0), 0);
        due("steps(0, 0)", x.steps(0, 0), 0);
        due("steps(0, 2)", x.steps(0, 2), 0);
        due("steps(0, 10)", x.steps(0, 10), NONE);
        for (int space : new int[] {-1, 10000, LOW, HIGH}) {
            due("steps(" + space + ", 0)", x.steps(space, 0), OUTSIDE);
        }
        due("count(8): refused ones are not counted", x.count(8), 8);
        x.lose(0);
        due("steps(9999, 0): not dropped ones alone", x.steps(9999, 0), 2);
        // abc and a both make it 4; abc, of SIZE 31, is ahead where it goes in
        KeptOrders y = line(64);
        y.order(38);
        y.order(1);
        asked(y, "a=5&b=94&c=7:c");
        due("steps(31, 10)", y.steps(31, 10), 0);
        due("steps(30, 10): the first does not go in", y.steps(30, 10), 1);
        due("steps(30, 1)", y.steps(30, 1), 4);
    }

    private static void asLongAsWorkBecomesLess() {
        promise = 28;
        // UPKEEP 1 takes 4 for an ORDER of HEIGHT 2; a spares 16 less 3, times WEIGHT
        KeptOrders x = line(64);
        x.order(1);
        asked(x, "a=5:a");
        x.upkeep(3);
        due("work(1): one less", x.work(1), x.work(0) - 1);
        due("steps(9999, 0): WORK becomes less by one", x.steps(9999, 0), 1);
        due("steps(9999, 1)", x.steps(9999, 1), 3 + 12);
        x.wide(5);
        due("work(1): as much as without it, 13 and 2", x.work(1), x.work(0) + 2);
        due("steps(9999, 0): WORK becomes more", x.steps(9999, 0), 0);
        x.upkeep(5);
        x.weight(0, 2);
        due("work(1): just as much", x.work(1), x.work(0));
        due("steps(9999, 0): WORK does not become less", x.steps(9999, 0), 0);
        due("steps(9999, 2)", x.steps(9999, 2), 0);
        due("choose(9999, 0): of like WORK least SIZES", x.choose(9999, 0), 0);
        // of like ones the least number, though the other has the lesser SIZE
        KeptOrders y = line(64);
        y.order(7);
        y.order(1);
        asked(y, "a=5:a");
        due("steps(9999, 10)", y.steps(9999, 10), 0);
        due("steps(9999, 2): the other one makes it no less", y.steps(9999, 2), 1);
    }

    private static void whatOfSteps() {
        promise = 28;
        KeptOrders x = line(64);
        x.order(22);
        x.order(1);
        asked(x, "a=5:a");
        asked(x, "d=0:d");
        due("steps(9999, 0)", x.steps(9999, 0), 3);
        due("steps(9999, 1)", x.steps(9999, 1), 3 + 10);
        due("steps(9999, 2)", x.steps(9999, 2), 2);
        due("steps(9999, 10)", x.steps(9999, 10), 1);
        due("steps(9999, 11)", x.steps(9999, 11), 0);
        for (int what = 12; what < 18; what++) {
            due("steps(9999, " + what + ")", x.steps(9999, what), NONE);
        }
        for (int what : new int[] {-1, 3, 9, 18, LOW, HIGH}) {
            due("steps(9999, " + what + ")", x.steps(9999, what), OUTSIDE);
        }
        due("count(8)", x.count(8), 11);
        // what came the time before is forgotten
        due("steps(15, 11)", x.steps(15, 11), NONE);
    }

    private static void twentyTimesStepByStep() {
        promise = 28;
        KeptOrders x = line(64);
        x.order(1);
        asked(x, "a=5:a");
        for (int what : new int[] {0, 1, 2, 10, 17}) {
            x.steps(9999, what);
        }
        x.steps(-1, 0);
        x.steps(0, 3);
        due("count(8): it counts whatever is read", x.count(8), 5);
        twentyTimes(x, "steps(9999, 1)", y -> y.steps(9999, 1), 3, 8);
        due("steps(-1, 0): OUTSIDE is told ahead of STATE", x.steps(-1, 0), OUTSIDE);
        due("steps(0, 9): OUTSIDE is told ahead of STATE", x.steps(0, 9), OUTSIDE);
        due("steps(0, 18): OUTSIDE is told ahead of STATE", x.steps(0, 18), OUTSIDE);
        due("choose(0, 0): it counts by itself", x.choose(0, 0), 0);
    }

    private static void ordersOfWorth() {
        promise = 29;
        KeptOrders x = line(64);
        for (int i = 0; i < 8; i++) {
            x.order(KEYS[i]);
        }
        asked(x, "a=5:a");
        due("worth(1, 0)", x.worth(1, 0), 13);
        due("worth(255, 0): ab does it as well", x.worth(255, 0), 0);
        due("worth(255, 7)", x.worth(255, 7), 0);
        due("worth(128, 7)", x.worth(128, 7), 0);
        x.upkeep(99);
        due("worth(1, 0) with UPKEEP: less than 0", x.worth(1, 0), 13 - 99 * 4);
        x.lose(3);
        for (int order : new int[] {-1, 8, 3, LOW, HIGH}) {
            due("worth(255, " + order + ")", x.worth(255, order), UNKNOWN);
            due("worth(256, " + order + "): UNKNOWN is told ahead of OUTSIDE", x.worth(256, order), UNKNOWN);
        }
        for (int set : new int[] {-1, 256, LOW, HIGH}) {
            due("worth(" + set + ", 0)", x.worth(set, 0), OUTSIDE);
            due("worth(" + set + ", 7)", x.worth(set, 7), OUTSIDE);
        }
        due("worth(0, 0): it is not in the set", x.worth(0, 0), UNKNOWN);
        due("worth(254, 0): it is not in the set", x.worth(254, 0), UNKNOWN);
        due("worth(127, 7): it is not in the set", x.worth(127, 7), UNKNOWN);
        due("worth(256, 1): OUTSIDE is told ahead of what is not in the set", x.worth(256, 1), OUTSIDE);
        due("worth(9, 0): dropped ones do not count", x.worth(9, 0), 13 - 99 * 4);
    }

    // ---- promises 30 to 36: pictures

    private static void partsOfPictures() {
        int[] rows = {0, 1, 2, 3, 4, 5, 7, 8, 63, 64};
        int[][] want = {
            {0, 0, 0, 0}, {0, 0, 0, 1}, {0, 1, 0, 1}, {0, 1, 1, 1}, {1, 1, 1, 1}, {1, 1, 1, 2}, {1, 2, 2, 2}, {2, 2, 2, 2},
            {15, 16, 16, 16}, {16, 16, 16, 16}};
        for (int k = 0; k < rows.length; k++) {
            KeptOrders x = line(rows[k]);
            promise = 30;
            due("picture(1) of " + rows[k], x.picture(1), Math.min(4, rows[k]));
            promise = 31;
            int least = 99 - rows[k] + 1;
            for (int i = 0; i < 4; i++) {
                int many = want[k][i];
                due("part(1, " + i + ", 0) of " + rows[k], x.part(1, i, 0), many == 0 ? NONE : many);
                due("part(1, " + i + ", 1) of " + rows[k], x.part(1, i, 1), many == 0 ? NONE : least);
                due("part(1, " + i + ", 2) of " + rows[k], x.part(1, i, 2), many == 0 ? NONE : least + many - 1);
                least += many;
            }
        }
        promise = 30;
        KeptOrders x = line(4);
        due("picture(0)", x.picture(0), 4);
        due("picture(3)", x.picture(3), 4);
        for (int column : new int[] {-1, 4, LOW, HIGH}) {
            due("picture(" + column + ")", x.picture(column), UNKNOWN);
        }
    }

    private static void partsAsTheyWere() {
        promise = 31;
        KeptOrders x = line(4);
        due("part(0, 0, 0): none at first", x.part(0, 0, 0), NONE);
        x.picture(0);
        x.set(0, 0, 50);
        x.drop(1);
        due("part(0, 0, 1): as when it was taken", x.part(0, 0, 1), 0);
        due("part(0, 1, 1): as when it was taken", x.part(0, 1, 1), 1);
        due("part(1, 0, 0): of its COLUMN alone", x.part(1, 0, 0), NONE);
        x.picture(0);
        due("part(0, 0, 0): of three, part 0 has none", x.part(0, 0, 0), NONE);
        due("part(0, 3, 2)", x.part(0, 3, 2), 50);
        x.mark();
        x.drop(0);
        x.back(0);
        due("part(0, 3, 2) behind back()", x.part(0, 3, 2), 50);
    }

    private static void whatOfParts() {
        promise = 31;
        KeptOrders x = line(8);
        x.picture(0);
        x.picture(3);
        due("part(0, 3, 2)", x.part(0, 3, 2), 7);
        due("part(3, 0, 0)", x.part(3, 0, 0), 2);
        due("part(3, 1, 2)", x.part(3, 1, 2), 0);
        due("part(3, 2, 1)", x.part(3, 2, 1), 1);
        for (int column = 0; column < 3; column += 2) {
            for (int i : new int[] {-1, 4, LOW, HIGH}) {
                due("part(" + column + ", " + i + ", 0)", x.part(column, i, 0), OUTSIDE);
            }
            for (int what : new int[] {-1, 3, LOW, HIGH}) {
                due("part(" + column + ", 0, " + what + ")", x.part(column, 0, what), OUTSIDE);
            }
        }
        for (int column : new int[] {-1, 4, LOW, HIGH}) {
            due("part(" + column + ", 0, 0)", x.part(column, 0, 0), UNKNOWN);
            due("part(" + column + ", 4, 0): UNKNOWN is told ahead of OUTSIDE", x.part(column, 4, 0), UNKNOWN);
            due("part(" + column + ", 0, 3): UNKNOWN is told ahead of OUTSIDE", x.part(column, 0, 3), UNKNOWN);
        }
        due("part(2, 3, 2): there is no PICTURE", x.part(2, 3, 2), NONE);
    }

    private static void boundsOfForetold() {
        promise = 32;
        KeptOrders x = keyed(0, 99);
        x.picture(0);
        due("foretold(0, 0, 99, 0)", x.foretold(0, 0, 99, 0), 2);
        due("foretold(0, 0, 0, 0): in order, like ones", x.foretold(0, 0, 0, 0), 1);
        due("foretold(0, 99, 99, 2)", x.foretold(0, 99, 99, 2), 1);
        due("foretold(0, 1, 98, 1)", x.foretold(0, 1, 98, 1), 0);
        for (int column = 0; column < 2; column++) {
            for (int sort : new int[] {-1, 3, LOW, HIGH}) {
                due("foretold(" + column + ", 0, 99, " + sort + ")", x.foretold(column, 0, 99, sort), OUTSIDE);
            }
            int[][] bounds = {{-1, 5}, {5, 100}, {100, 100}, {-1, -1}, {LOW, 5}, {5, HIGH}, {6, 5}, {99, 0}, {5, -1}, {100, 5}};
            for (int[] b : bounds) {
                due("foretold(" + column + ", " + b[0] + ", " + b[1] + ", 0)", x.foretold(column, b[0], b[1], 0), OUTSIDE);
            }
        }
        for (int column : new int[] {-1, 4, LOW, HIGH}) {
            due("foretold(" + column + ", 0, 0, 0)", x.foretold(column, 0, 0, 0), UNKNOWN);
            due("foretold(" + column + ", 0, 0, 3): UNKNOWN is told ahead of OUTSIDE", x.foretold(column, 0, 0, 3), UNKNOWN);
            due("foretold(" + column + ", 1, 0, 0): UNKNOWN is told ahead of OUTSIDE", x.foretold(column, 1, 0, 0), UNKNOWN);
        }
        due("foretold(1, 0, 99, 0): there is no PICTURE", x.foretold(1, 0, 99, 0), NONE);
        x.drop(0);
        x.drop(1);
        x.picture(1);
        for (int sort = 0; sort < 3; sort++) {
            due("foretold(1, 0, 99, " + sort + ") of a PICTURE of nothing", x.foretold(1, 0, 99, sort), 0);
            due("foretold(0, 0, 99, " + sort + ") of an older one", x.foretold(0, 0, 99, sort), 2);
        }
        x.picture(0);
        due("foretold(0, 0, 99, 1): no part has any now", x.foretold(0, 0, 99, 1), 0);
        due("foretold(0, 0, 99, 2): no part has any now", x.foretold(0, 0, 99, 2), 0);
    }

    private static void surelyPerhapsLikely() {
        promise = 32;
        // parts 10 20, 30 40, 50 60, 70 80, of 11 numbers each
        KeptOrders x = keyed(80, 10, 70, 20, 60, 30, 50, 40);
        x.picture(0);
        int[][] bounds = {
            {10, 20}, {11, 20}, {10, 19}, {9, 21}, {30, 60}, {31, 60}, {20, 30}, {21, 29}, {0, 9}, {81, 99}, {80, 99}, {0, 10},
            {35, 35}, {30, 35}, {30, 34}, {35, 40}, {36, 40}, {15, 35}, {0, 99}};
        // LIKELY: 2 times 10 by 11 is 1, 2 times 6 by 11 is 1, 2 times 5 by 11 is 0, each part rounded down by itself
        int[][] want = {
            {2, 2, 2}, {0, 2, 1}, {0, 2, 1}, {2, 2, 2}, {4, 4, 4}, {2, 4, 3}, {0, 4, 0}, {0, 0, 0}, {0, 0, 0}, {0, 0, 0}, {0, 2, 0}, {0, 2, 0},
            {0, 2, 0}, {0, 2, 1}, {0, 2, 0}, {0, 2, 1}, {0, 2, 0}, {0, 4, 2}, {8, 8, 8}};
        for (int i = 0; i < bounds.length; i++) {
            for (int sort = 0; sort < 3; sort++) {
                String call = "foretold(0, " + bounds[i][0] + ", " + bounds[i][1] + ", " + sort + ")";
                due(call, x.foretold(0, bounds[i][0], bounds[i][1], sort), want[i][sort]);
            }
        }
    }

    private static void likelyRows() {
        promise = 33;
        KeptOrders x = line(8);
        asked(x, "a<4:a");
        asked(x, "a<0:a");
        asked(x, ":a");
        asked(x, "a<4&b>95:a");
        for (int q = 0; q < 4; q++) {
            due("likely(" + q + "): no PICTURE was taken", x.likely(q), 0);
        }
        x.picture(2);
        int[] unseen = {8, 8, 8, 8};
        for (int q = 0; q < 4; q++) {
            due("likely(" + q + "): c alone has a PICTURE", x.likely(q), unseen[q]);
        }
        x.picture(0);
        int[] seen = {4, 0, 8, 4};
        for (int q = 0; q < 4; q++) {
            due("likely(" + q + "): a has one too", x.likely(q), seen[q]);
        }
        x.picture(1);
        due("likely(3): 4 times 4 by 8", x.likely(3), 2);
        x.drop(7);
        x.drop(6);
        x.drop(5);
        due("likely(3): as when the latest was taken", x.likely(3), 2);
        x.picture(3);
        due("likely(2): 5 ROWS then", x.likely(2), 5);
        due("likely(3): 4 times 4 by 5, rounded down", x.likely(3), 3);
        for (int s = 0; s < 5; s++) {
            x.drop(s);
        }
        due("likely(3): not yet 0", x.likely(3), 3);
        x.picture(3);
        for (int q = 0; q < 4; q++) {
            due("likely(" + q + "): 0 if n is 0", x.likely(q), 0);
        }
        for (int question : new int[] {-1, 4, 8, LOW, HIGH}) {
            due("likely(" + question + ")", x.likely(question), UNKNOWN);
        }
    }

    private static void foretoldLooks() {
        promise = 34;
        KeptOrders x = line(18);
        x.order(1);
        asked(x, "a<6:a");
        asked(x, "a<7:a");
        asked(x, "a>50:a");
        asked(x, "a<3:d");
        asked(x, "a<4:d");
        asked(x, "a<6:d");
        asked(x, "a<6:a/d");
        asked(x, "a<6:a/a");
        due("guess(0, 1): 1 at least, without PICTURES", x.guess(0, 1), 1 + 1);
        // parts 0 to 3, 4 to 8, 9 to 12, 13 to 17
        x.picture(0);
        int[] likely = {6, 7, 0, 3, 4, 6, 6, 6};
        int[] want = {1 + 1, 1 + 2, 1 + 1, 1 + 1 + 3, 1 + 1 + 4, 1 + 1 + 5, 1 + 1 + 5 + 6, 1 + 1};
        for (int q = 0; q < 8; q++) {
            due("likely(" + q + ")", x.likely(q), likely[q]);
            due("guess(" + q + ", 1)", x.guess(q, 1), want[q]);
            due("guess(" + q + ", 0)", x.guess(q, 0), 5 + (q >= 6 ? 6 : 0));
        }
        KeptOrders y = new KeptOrders();
        y.order(1);
        asked(y, "a=1:d/d");
        y.picture(0);
        due("guess(0, 0) of no ROWS", y.guess(0, 0), 0);
        due("guess(0, 1) of no ROWS: 1 at least", y.guess(0, 1), 1);
    }

    private static void foretoldColumns() {
        promise = 34;
        // by ab 5 LEAVES of HEIGHT 2; of the PICTURE of b the last part is 95 to 99
        KeptOrders x = line(18);
        x.order(7);
        asked(x, "b=99:d");
        asked(x, "b=99&d=0:d");
        asked(x, "a<0&b=99:a/a");
        x.picture(1);
        due("guess(0, 1): nothing makes THE RUN, one likely ROW is fetched", x.guess(0, 1), 2 + 5 + 1);
        x.picture(3);
        due("likely(1): 1 times 9 by 18, rounded down", x.likely(1), 0);
        due("guess(1, 1): d is not in the KEY", x.guess(1, 1), 2 + 5 + 1);
        // BOUNDS that let none are not the same number: a is not FIXED, and has no PICTURE
        due("guess(2, 0): sorted by a COLUMN that is not FIXED", x.guess(2, 0), 5 + 1);
        due("guess(2, 1): a alone makes THE RUN, and sorts", x.guess(2, 1), 2 + 5);
        x.picture(0);
        due("guess(2, 0) with a PICTURE of a", x.guess(2, 0), 5);
        due("guess(2, 1) with a PICTURE of a: 1 at least", x.guess(2, 1), 2 + 1);
    }

    private static void waysOfGuess() {
        promise = 34;
        KeptOrders x = line(8);
        for (int i = 0; i < 8; i++) {
            x.order(KEYS[i]);
        }
        asked(x, "a=1:a");
        for (int way = 0; way < 9; way++) {
            due("guess(0, " + way + ") is foretold", x.guess(0, way) > 0 ? 1 : 0, 1);
        }
        for (int way : new int[] {-1, 9, 100, 101, 167, LOW, LOW + 1, HIGH}) {
            due("guess(0, " + way + ")", x.guess(0, way), UNKNOWN);
        }
        for (int question : new int[] {-1, 1, 8, LOW, HIGH}) {
            due("guess(" + question + ", 0)", x.guess(question, 0), UNKNOWN);
        }
        x.lose(7);
        due("guess(0, 8) of a dropped one", x.guess(0, 8), UNKNOWN);
        due("guess(0, 7)", x.guess(0, 7) > 0 ? 1 : 0, 1);
    }

    private static void chosenOfLikeOnes() {
        promise = 35;
        KeptOrders x = line(8);
        asked(x, "a=1:a");
        due("chosen(0) without ORDERS", x.chosen(0), 0);
        x.order(1);
        due("guess(0, 1)", x.guess(0, 1), x.guess(0, 0));
        due("chosen(0): THE TABLE of like ones", x.chosen(0), 0);
        x.wide(2);
        due("chosen(0) at 2", x.chosen(0), 1);
        x.order(7);
        due("guess(0, 2)", x.guess(0, 2), x.guess(0, 1));
        due("chosen(0): of like ORDERS the least number", x.chosen(0), 1);
        x.lose(0);
        due("chosen(0): not dropped ones alone", x.chosen(0), 2);
        x.lose(1);
        due("chosen(0): none is left", x.chosen(0), 0);
        for (int question : new int[] {-1, 1, 8, LOW, HIGH}) {
            due("chosen(" + question + ")", x.chosen(question), UNKNOWN);
        }
    }

    private static void regrets() {
        promise = 36;
        KeptOrders x = line(64);
        asked(x, "a>0:ad");
        due("regret(0) without ORDERS", x.regret(0), 0);
        x.order(1);
        due("guess(0, 1): no PICTURE, so no ROWS are likely", x.guess(0, 1), 2 + 1);
        due("chosen(0)", x.chosen(0), 1);
        due("regret(0): HEIGHT 2, 11 LEAVES and 16 PAGES, less 16", x.regret(0), 2 + 11 + 16 - 16);
        x.picture(0);
        due("regret(0) with a PICTURE", x.regret(0), 0);
        for (int question : new int[] {-1, 1, 8, LOW, HIGH}) {
            due("regret(" + question + ")", x.regret(question), UNKNOWN);
        }
        KeptOrders y = new KeptOrders();
        y.order(1);
        asked(y, "a=1:a");
        due("regret(0) of no ROWS", y.regret(0), 0);
    }

    // ---- promises 37 to 40: marks, and what is told

    private static void threeMarks() {
        promise = 37;
        KeptOrders x = new KeptOrders();
        due("mark()", x.mark(), 1);
        due("mark() with one", x.mark(), 2);
        due("mark() with two", x.mark(), 3);
        due("mark() with three", x.mark(), FULL);
        due("count(5)", x.count(5), 3);
        due("back(2)", x.back(2), 0);
        due("mark() behind back(2): three are still there", x.mark(), FULL);
        due("back(1)", x.back(1), 0);
        due("mark() behind back(1)", x.mark(), 3);
        due("back(0)", x.back(0), 0);
        due("mark() behind back(0)", x.mark(), 2);
    }

    private static void backToAMark() {
        promise = 38;
        KeptOrders x = new KeptOrders();
        for (int mark : new int[] {0, -1, LOW, HIGH}) {
            due("back(" + mark + ") without marks", x.back(mark), UNKNOWN);
        }
        x.mark();
        x.fill(1, 64, 100);
        x.mark();
        x.drop(0);
        x.set(63, 3, x.get(63, 3) == 99 ? 98 : 99);
        x.mark();
        for (int mark : new int[] {3, -1, LOW, HIGH}) {
            due("back(" + mark + ")", x.back(mark), UNKNOWN);
        }
        x.drop(63);
        due("back(2)", x.back(2), 63);
        due("get(0, 0)", x.get(0, 0), NONE);
        due("get(63, 3)", x.get(63, 3) >= 98 ? 1 : 0, 1);
        due("back(2): the mark itself stays", x.back(2), 63);
        due("back(1)", x.back(1), 64);
        due("get(0, 0) as at mark 1", x.get(0, 0), 38);
        due("back(2): it is gone", x.back(2), UNKNOWN);
        due("count(5)", x.count(5), 2);
        due("back(0)", x.back(0), 0);
        due("get(0, 0) as at mark 0", x.get(0, 0), NONE);
        due("back(1): it is gone", x.back(1), UNKNOWN);
        due("back(0): it stays", x.back(0), 0);
        // a mark made anew keeps what is there now
        x.row(7, 7, 7, 7);
        due("mark() anew", x.mark(), 2);
        x.drop(0);
        due("back(1) anew", x.back(1), 1);
        due("get(0, 0) anew", x.get(0, 0), 7);
    }

    private static void whatOfCount() {
        promise = 39;
        KeptOrders x = new KeptOrders();
        for (int what : new int[] {-1, 9, LOW, HIGH}) {
            due("count(" + what + ")", x.count(what), OUTSIDE);
        }
        x.fill(1, 64, 100);
        for (int i = 0; i < 8; i++) {
            x.order(KEYS[i]);
            asked(x, ":a");
        }
        for (int i = 0; i < 60; i++) {
            x.letters(packed("a"));
        }
        for (int i = 0; i < 21; i++) {
            x.choose(0, 0);
            x.steps(0, 0);
        }
        for (int i = 0; i < 4; i++) {
            x.mark();
        }
        int[] full = {64, 16, 8, 8, 8, 3, 60, 20, 20};
        for (int what = 0; what < 9; what++) {
            due("count(" + what + ") of a full object", x.count(what), full[what]);
        }
        x.lose(0);
        due("count(2) when one is dropped", x.count(2), 7);
        due("count(3) when one is dropped", x.count(3), 8);
    }

    private static long fold(long h, long... numbers) {
        for (long v : numbers) {
            h = 31 * h + v;
        }
        return h;
    }

    private static void digestWraps() {
        promise = 40;
        // far more than 64 figures: it wraps as longs do; -1 stands for each empty COLUMN and PART
        long h = fold(241, 4);
        for (int i = 0; i < 256; i++) {
            h = fold(h, -1);
        }
        h = fold(h, 0);
        for (int i = 0; i < 48; i++) {
            h = fold(h, -1);
        }
        due("digest() of an empty table", new KeptOrders().digest(), fold(h, 0, 0, 0, 0, 0, 0, 0, 0, 0));
        // letters behind a blank() are not told, nor are they behind the last
        KeptOrders x = new KeptOrders();
        x.letters(packed("a~"));
        due("digest() with two letters", x.digest(), fold(fold(h, 'a', '~'), 0, 0, 0, 0, 0, 0, 2, 0, 0));
        x.blank();
        due("digest() of a blank page", x.digest(), fold(h, 0, 0, 0, 0, 0, 0, 0, 0, 0));
        // nothing of a dropped ORDER but the count
        x.order(1);
        x.lose(0);
        due("digest() of a dropped ORDER", x.digest(), fold(h, 0, 0, 0, 1, 0, 0, 0, 0, 0));
        x.order(2);
        h = fold(241, 4);
        for (int i = 0; i < 256; i++) {
            h = fold(h, -1);
        }
        h = fold(h, 2, 0, 0, 0, 0, 0);
        for (int i = 0; i < 48; i++) {
            h = fold(h, -1);
        }
        due("digest() of an ORDER without ENTRIES", x.digest(), fold(h, 0, 0, 1, 2, 0, 0, 0, 0, 0));
    }
}
