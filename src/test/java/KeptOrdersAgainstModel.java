import java.util.ArrayList;
import java.util.Arrays;
import java.util.Collections;
import java.util.Comparator;
import java.util.HashSet;
import java.util.List;
import java.util.Random;
import java.util.Set;
import java.util.TreeSet;

/** Runs of made-up calls on KeptOrders and on a slow model that follows the document word by word. */
public final class KeptOrdersAgainstModel {
    static final int NONE = -1, UNKNOWN = -101, OUTSIDE = -102, STATE = -103, FULL = -104;
    private static final int RUNS = 300;
    /** An object is used for at most 512 calls: the dearest thing made at once is a question, of up to ten. */
    private static final int CALLS = 500;
    private static final int[] WILD = {
        Integer.MIN_VALUE, -1000, -2, -1, 0, 1, 7, 8, 9, 64, 99, 100, 255, 256, 1000, 9999, 10000, Integer.MAX_VALUE
    };

    private final Random random;
    private final KeptOrders real = new KeptOrders();
    private final Model model = new Model();
    private final StringBuilder told = new StringBuilder();
    private final int run;
    private int calls;
    private int wrong;
    private boolean manyRows;

    private KeptOrdersAgainstModel(int run) {
        this.run = run;
        random = new Random(1000003L * run + 17);
    }

    public static void main(String[] args) {
        int wrong = 0;
        int[] answered = new int[40];
        for (int run = 0; run < RUNS && wrong < 5; run++) {
            wrong += new KeptOrdersAgainstModel(run).play(answered);
        }
        for (int call = 0; call < 39; call++) {
            if (answered[call] == 0 && wrong == 0) {
                System.out.println("call " + call + " was never made");
                wrong++;
            }
        }
        System.out.println(wrong == 0 ? RUNS + " runs agree with the model" : wrong + " runs do not agree with the model");
        if (wrong != 0) {
            System.exit(1);
        }
    }

    private int play(int[] answered) {
        // few slots, rows and numbers in some runs, so that edges are met more often
        int most = new int[] {2, 5, 12, 40, 100}[random.nextInt(5)];
        int start = random.nextInt(5);
        manyRows = start > 2;
        if (run % 3 == 0) {
            most = 4 + random.nextInt(3);
            openForBoth(most);
        }
        for (int i = 0; calls < CALLS && wrong == 0; i++) {
            int call = i < 4 * start ? opening(i) : pick();
            answered[call]++;
            make(call, most);
        }
        if (wrong == 0) {
            compare("digest()", real.digest(), model.digest());
        }
        return wrong;
    }

    /** Some runs begin with rows, orders and questions, so that dear calls meet them. */
    private int opening(int i) {
        return i == 0 ? 3 : i % 2 == 0 ? 6 : 15;
    }

    /** Narrow pages, many rows and orders of one column: here two orders together are often the best way. */
    private void openForBoth(int most) {
        compare("wide", real.wide(2), model.wide(2), 2);
        int x = random.nextInt(Integer.MAX_VALUE);
        compare("fill", real.fill(x, 64, most), model.fill(x, 64, most), x, 64, most);
        for (int key = 1; key < 5; key++) {
            compare("order", real.order(key), model.order(key), key);
        }
        for (int i = 0; i < 4; i++) {
            String text = "a=" + random.nextInt(most) + "&" + (char) ('b' + random.nextInt(3)) + "=" + random.nextInt(most) + ":abcd";
            long first = packed(text.substring(0, 8)), second = packed(text.substring(8));
            told.append("letters(").append(first).append("L) letters(").append(second).append("L) ");
            compare("letters", real.letters(first), model.letters(first));
            compare("letters", real.letters(second), model.letters(second));
            compare("ask", real.ask(), model.ask());
        }
    }

    private int pick() {
        int r = random.nextInt(100);
        if (r < 14) {
            return 15;
        }
        if (r < 24) {
            return random.nextInt(4);
        }
        return random.nextInt(39);
    }

    private int value(int from, int to) {
        if (random.nextInt(24) == 0) {
            return WILD[random.nextInt(WILD.length)];
        }
        return from + random.nextInt(to - from + 1);
    }

    private int key() {
        return random.nextInt(6) == 0 ? value(-1, 126) : KEYS[random.nextInt(KEYS.length)];
    }

    private static final int[] KEYS = {1, 2, 3, 4, 7, 8, 9, 11, 13, 14, 16, 17, 19, 21, 22, 23, 38, 39, 44, 59, 69, 86, 109, 117};

    private int way() {
        int r = random.nextInt(8);
        if (r < 3) {
            return value(0, 8);
        }
        return r < 7 ? 100 + 10 * random.nextInt(8) + random.nextInt(8) : value(-3, 190);
    }

    private int set() {
        return random.nextInt(3) == 0 ? 255 : value(0, 255);
    }

    private void make(int call, int most) {
        if (call < 13) {
            makeForTable(call, most);
        } else if (call < 22) {
            makeForQuestions(call, most);
        } else {
            makeForWays(call, most);
        }
    }

    private void makeForTable(int call, int most) {
        int a = value(0, most - 1), b = value(0, most - 1), c = value(0, most - 1), d = value(0, most - 1);
        int slot = value(0, random.nextBoolean() ? 12 : 63), column = value(0, 3), order = value(0, 7);
        switch (call) {
            case 0: compare("row", real.row(a, b, c, d), model.row(a, b, c, d), a, b, c, d); break;
            case 1: compare("set", real.set(slot, column, a), model.set(slot, column, a), slot, column, a); break;
            case 2: compare("drop", real.drop(slot), model.drop(slot), slot); break;
            case 3: {
                int x = value(0, Integer.MAX_VALUE - 1), n = manyRows ? 64 : value(1, random.nextInt(4) == 0 ? 64 : 9), m = manyRows ? Math.max(4, most) : value(1, most);
                compare("fill", real.fill(x, n, m), model.fill(x, n, m), x, n, m);
                break;
            }
            case 4: compare("get", real.get(slot, column), model.get(slot, column), slot, column); break;
            case 5: { int v = value(1, 9); compare("wide", real.wide(v), model.wide(v), v); break; }
            case 6: { int k = key(); compare("order", real.order(k), model.order(k), k); break; }
            case 7:
                if (random.nextInt(6) == 0) {
                    compare("lose", real.lose(order), model.lose(order), order);
                }
                break;
            case 8: compare("pack", real.pack(order), model.pack(order), order); break;
            case 9: { int w = value(-1, 5); compare("about", real.about(order, w), model.about(order, w), order, w); break; }
            case 10: compare("entry", real.entry(order, slot), model.entry(order, slot), order, slot); break;
            case 11: compare("leaf", real.leaf(order, slot), model.leaf(order, slot), order, slot); break;
            default: compare("digest", real.digest(), model.digest()); break;
        }
    }

    private void makeForQuestions(int call, int most) {
        int question = value(0, 7), column = value(0, 3);
        switch (call) {
            case 13: {
                long w = random.nextInt(3) == 0 ? random.nextLong() : packed(scrap());
                told.append("letters(").append(w).append("L) ");
                compare("letters", real.letters(w), model.letters(w));
                break;
            }
            case 14: compare("blank", real.blank(), model.blank()); break;
            case 15: askSomething(most); break;
            case 16: compare("good", real.good(), model.good()); break;
            case 17: { int s = value(-1, 2); compare("bound", real.bound(question, column, s), model.bound(question, column, s), question, column, s); break; }
            case 18: { int v = value(0, 99); compare("weight", real.weight(question, v), model.weight(question, v), question, v); break; }
            case 19: compare("answers", real.answers(question), model.answers(question), question); break;
            case 20: { int i = value(-1, 12); compare("answer", real.answer(question, i), model.answer(question, i), question, i); break; }
            default: { int o = value(0, 7); compare("run", real.run(question, o), model.run(question, o), question, o); break; }
        }
    }

    private void makeForWays(int call, int most) {
        int question = value(0, 7), column = value(0, 3), set = set(), order = value(0, 7);
        int space = random.nextInt(3) == 0 ? 9999 : value(0, 90);
        switch (call) {
            case 22: { int w = way(); compare("looks", real.looks(question, w), model.looks(question, w), question, w); break; }
            case 23: compare("best", real.best(question, set), model.best(question, set), question, set); break;
            case 24: compare("work", real.work(set), model.work(set), set); break;
            case 25: { int v = value(0, random.nextBoolean() ? 3 : 99); compare("upkeep", real.upkeep(v), model.upkeep(v), v); break; }
            case 26: compare("worth", real.worth(set, order), model.worth(set, order), set, order); break;
            case 27: { int w = value(0, 2); compare("choose", real.choose(space, w), model.choose(space, w), space, w); break; }
            case 28: { int w = random.nextBoolean() ? value(0, 3) : value(9, 18); compare("steps", real.steps(space, w), model.steps(space, w), space, w); break; }
            case 29: compare("picture", real.picture(column), model.picture(column), column); break;
            case 30: { int i = value(0, 3), w = value(0, 2); compare("part", real.part(column, i, w), model.part(column, i, w), column, i, w); break; }
            case 31: {
                int l = value(0, most - 1), g = value(Math.max(0, Math.min(l, 98)), 99), s = value(0, 2);
                compare("foretold", real.foretold(column, l, g, s), model.foretold(column, l, g, s), column, l, g, s);
                break;
            }
            case 32: compare("likely", real.likely(question), model.likely(question), question); break;
            case 33: { int w = value(-1, 9); compare("guess", real.guess(question, w), model.guess(question, w), question, w); break; }
            case 34: compare("chosen", real.chosen(question), model.chosen(question), question); break;
            case 35: compare("regret", real.regret(question), model.regret(question), question); break;
            case 36: if (random.nextInt(3) == 0) { compare("mark", real.mark(), model.mark()); } break;
            case 37: if (random.nextInt(3) == 0) { int m = value(0, 3); compare("back", real.back(m), model.back(m), m); } break;
            default: { int w = value(-1, 9); compare("count", real.count(w), model.count(w), w); break; }
        }
    }

    private String scrap() {
        String signs = "aabbccdd<=>&&::/0123459 e;@`\n~";
        StringBuilder s = new StringBuilder();
        for (int n = random.nextInt(5); n >= 0; n--) {
            s.append(signs.charAt(random.nextInt(signs.length())));
        }
        return s.toString();
    }

    private void askSomething(int most) {
        if (random.nextInt(4) != 0) {
            compare("blank", real.blank(), model.blank());
        }
        StringBuilder text = new StringBuilder();
        for (int n = random.nextInt(4); n > 0; n--) {
            if (text.length() > 0) {
                text.append('&');
            }
            int number = random.nextInt(8) == 0 ? random.nextInt(100) : random.nextInt(most);
            text.append((char) ('a' + random.nextInt(4))).append("<==>".charAt(random.nextInt(4)));
            if (number < 10 && random.nextInt(4) == 0) {
                text.append('0');
            }
            text.append(number);
        }
        text.append(':');
        List<Character> letters = new ArrayList<>(List.of('a', 'b', 'c', 'd'));
        Collections.shuffle(letters, random);
        for (int n = random.nextInt(4); n >= 0; n--) {
            text.append(letters.get(n));
        }
        if (random.nextInt(3) == 0) {
            text.append('/').append((char) ('a' + random.nextInt(4)));
        }
        if (random.nextInt(6) == 0) {
            text.setCharAt(random.nextInt(text.length()), "abcd<=>&:/09e".charAt(random.nextInt(13)));
        }
        for (int from = 0; from < text.length(); from += 8) {
            long w = packed(text.substring(from, Math.min(text.length(), from + 8)));
            told.append("letters(").append(w).append("L) ");
            compare("letters", real.letters(w), model.letters(w));
        }
        compare("good", real.good(), model.good());
        compare("ask", real.ask(), model.ask());
    }

    private static long packed(String letters) {
        long w = 0;
        for (int i = Math.min(8, letters.length()) - 1; i >= 0; i--) {
            w = w << 8 | letters.charAt(i);
        }
        return w;
    }

    private void compare(String call, long got, long want, int... with) {
        calls++;
        told.append(call).append(Arrays.toString(with)).append(' ');
        if (got != want && wrong == 0) {
            wrong++;
            System.out.println("run " + run + ": " + call + Arrays.toString(with) + " answered " + got + ", the model " + want);
            int from = Math.max(0, told.length() - 3000);
            System.out.println("  behind: " + told.substring(from));
        }
    }

    /** The document, word by word, with no thought of speed. */
    static final class Model {
        int wide = 4;
        int[][] rows = new int[64][];
        final List<Ordering> orders = new ArrayList<>();
        final List<Asked> questions = new ArrayList<>();
        String page = "";
        int upkeep, choices, stepTimes;
        /** Each picture: the parts, each a sorted list. */
        final List<List<List<Integer>>> pictures = new ArrayList<>(Arrays.asList(null, null, null, null));
        int pictureRows;
        final List<int[][]> marks = new ArrayList<>();

        static final class Asked {
            final int[] least = {0, 0, 0, 0}, greatest = {99, 99, 99, 99};
            final Set<Integer> shown = new HashSet<>();
            int sorted = NONE, weight = 1;

            boolean fixed(int c) {
                return least[c] == greatest[c];
            }

            boolean bound(int c) {
                return !(least[c] == 0 && greatest[c] == 99);
            }

            boolean lets(int[] row, Iterable<Integer> columns) {
                for (int c : columns) {
                    if (row[c] < least[c] || row[c] > greatest[c]) {
                        return false;
                    }
                }
                return true;
            }
        }

        final class Ordering {
            final int key;
            final List<Integer> columns = new ArrayList<>();
            List<List<Integer>> leaves = new ArrayList<>();
            int cuts;
            boolean dropped;

            Ordering(int key) {
                this.key = key;
                for (char figure : Integer.toString(key, 5).toCharArray()) {
                    columns.add(figure - '1');
                }
                packed();
            }

            int room() {
                return columns.size() == 1 ? 6 : columns.size() == 2 ? 4 : 3;
            }

            boolean ahead(int s, int t) {
                for (int c : columns) {
                    if (rows[s][c] != rows[t][c]) {
                        return rows[s][c] < rows[t][c];
                    }
                }
                return s < t;
            }

            List<Integer> entries() {
                List<Integer> all = new ArrayList<>();
                leaves.forEach(all::addAll);
                return all;
            }

            void packed() {
                List<Integer> all = new ArrayList<>(slots());
                all.sort((s, t) -> s.equals(t) ? 0 : ahead(s, t) ? -1 : 1);
                leaves = new ArrayList<>();
                for (int s : all) {
                    if (leaves.isEmpty() || leaves.get(leaves.size() - 1).size() == room()) {
                        leaves.add(new ArrayList<>());
                    }
                    leaves.get(leaves.size() - 1).add(s);
                }
            }

            void comes(int slot) {
                if (leaves.isEmpty()) {
                    leaves.add(new ArrayList<>());
                }
                int into = 0;
                for (int i = 0; i < leaves.size(); i++) {
                    if (!leaves.get(i).isEmpty() && ahead(leaves.get(i).get(0), slot)) {
                        into = i;
                    }
                }
                List<Integer> leaf = leaves.get(into);
                leaf.add(slot);
                leaf.sort((s, t) -> s.equals(t) ? 0 : ahead(s, t) ? -1 : 1);
                if (leaf.size() > room()) {
                    int stay = (leaf.size() + 1) / 2;
                    leaves.set(into, new ArrayList<>(leaf.subList(0, stay)));
                    leaves.add(into + 1, new ArrayList<>(leaf.subList(stay, leaf.size())));
                    cuts++;
                }
            }

            void goes(int slot) {
                for (List<Integer> leaf : leaves) {
                    leaf.remove((Integer) slot);
                }
                leaves.removeIf(List::isEmpty);
            }

            int height() {
                int n = leaves.size(), h = 0;
                while (n > 1) {
                    n = (n + 3) / 4;
                    h++;
                }
                return h;
            }

            int size() {
                int n = leaves.size(), sum = n;
                while (n > 1) {
                    n = (n + 3) / 4;
                    sum += n;
                }
                return sum;
            }

            List<Integer> runColumns(Asked q) {
                List<Integer> run = new ArrayList<>();
                int i = 0;
                while (i < columns.size() && q.fixed(columns.get(i))) {
                    run.add(columns.get(i++));
                }
                if (i < columns.size() && q.bound(columns.get(i))) {
                    run.add(columns.get(i));
                }
                return run;
            }

            int climb(Asked q) {
                int holding = 0;
                for (List<Integer> leaf : leaves) {
                    holding += leaf.stream().anyMatch(s -> q.lets(rows[s], runColumns(q))) ? 1 : 0;
                }
                return height() + (holding == 0 && !leaves.isEmpty() ? 1 : holding);
            }

            Set<Integer> leaves(Asked q) {
                Set<Integer> left = new TreeSet<>();
                for (int s : entries()) {
                    if (q.lets(rows[s], runColumns(q)) && q.lets(rows[s], columns)) {
                        left.add(s);
                    }
                }
                return left;
            }

            boolean allInKey(Asked q) {
                for (int c = 0; c < 4; c++) {
                    if ((q.bound(c) || q.shown.contains(c) || q.sorted == c) && !columns.contains(c)) {
                        return false;
                    }
                }
                return true;
            }

            boolean bringsSorted(Asked q) {
                for (int c : columns) {
                    if (!q.fixed(c)) {
                        return c == q.sorted;
                    }
                }
                return false;
            }
        }

        private static final List<Integer> ALL = List.of(0, 1, 2, 3);

        List<Integer> slots() {
            List<Integer> found = new ArrayList<>();
            for (int s = 0; s < 64; s++) {
                if (rows[s] != null) {
                    found.add(s);
                }
            }
            return found;
        }

        int pages(Iterable<Integer> slots) {
            Set<Integer> pages = new HashSet<>();
            slots.forEach(s -> pages.add(s / wide));
            return pages.size();
        }

        static boolean number(int v) {
            return v >= 0 && v <= 99;
        }

        boolean row(int slot) {
            return slot >= 0 && slot < 64 && rows[slot] != null;
        }

        static boolean column(int c) {
            return c >= 0 && c <= 3;
        }

        Ordering live(int o) {
            return o >= 0 && o < orders.size() && !orders.get(o).dropped ? orders.get(o) : null;
        }

        Asked asked(int q) {
            return q >= 0 && q < questions.size() ? questions.get(q) : null;
        }

        private int come(int... numbers) {
            for (int s = 0; s < 64; s++) {
                if (rows[s] == null) {
                    rows[s] = numbers;
                    for (Ordering o : orders) {
                        if (!o.dropped) {
                            o.comes(s);
                        }
                    }
                    return s;
                }
            }
            return FULL;
        }

        int row(int a, int b, int c, int d) {
            return number(a) && number(b) && number(c) && number(d) ? come(a, b, c, d) : OUTSIDE;
        }

        int set(int slot, int column, int v) {
            if (!row(slot) || !column(column)) {
                return UNKNOWN;
            }
            if (!number(v)) {
                return OUTSIDE;
            }
            int was = rows[slot][column];
            for (Ordering o : orders) {
                if (!o.dropped) {
                    o.goes(slot);
                }
            }
            rows[slot] = rows[slot].clone();
            rows[slot][column] = v;
            for (Ordering o : orders) {
                if (!o.dropped) {
                    o.comes(slot);
                }
            }
            return was;
        }

        int drop(int slot) {
            if (!row(slot)) {
                return UNKNOWN;
            }
            for (Ordering o : orders) {
                o.goes(slot);
            }
            rows[slot] = null;
            return slots().size();
        }

        int fill(int x, int n, int most) {
            if (x < 0 || n < 1 || n > 64 || most < 1 || most > 100) {
                return OUTSIDE;
            }
            java.math.BigInteger seed = java.math.BigInteger.valueOf(x);
            int came = 0;
            while (came < n && slots().size() < 64) {
                int[] numbers = new int[4];
                for (int c = 0; c < 4; c++) {
                    seed = seed.multiply(java.math.BigInteger.valueOf(1103515245)).add(java.math.BigInteger.valueOf(12345))
                        .mod(java.math.BigInteger.ONE.shiftLeft(31));
                    numbers[c] = seed.divide(java.math.BigInteger.valueOf(65536)).mod(java.math.BigInteger.valueOf(most)).intValue();
                }
                come(numbers);
                came++;
            }
            return came;
        }

        int get(int slot, int column) {
            if (slot < 0 || slot > 63 || !column(column)) {
                return UNKNOWN;
            }
            return rows[slot] == null ? NONE : rows[slot][column];
        }

        int wide(int v) {
            if (v < 2 || v > 8) {
                return OUTSIDE;
            }
            int was = wide;
            wide = v;
            return was;
        }

        int order(int key) {
            String figures = key > 0 ? Integer.toString(key, 5) : "";
            if (!figures.matches("[1-4]{1,3}") || figures.chars().distinct().count() != figures.length()) {
                return OUTSIDE;
            }
            if (orders.stream().anyMatch(o -> !o.dropped && o.key == key)) {
                return STATE;
            }
            if (orders.size() == 8) {
                return FULL;
            }
            orders.add(new Ordering(key));
            return orders.size() - 1;
        }

        int lose(int order) {
            Ordering o = live(order);
            if (o == null) {
                return UNKNOWN;
            }
            o.dropped = true;
            return o.size();
        }

        int pack(int order) {
            Ordering o = live(order);
            if (o == null) {
                return UNKNOWN;
            }
            int was = o.size();
            o.packed();
            return was - o.size();
        }

        int about(int order, int what) {
            Ordering o = live(order);
            if (o == null) {
                return UNKNOWN;
            }
            if (what < 0 || what > 4) {
                return OUTSIDE;
            }
            return new int[] {o.key, o.leaves.size(), o.height(), o.size(), o.cuts}[what];
        }

        int entry(int order, int i) {
            Ordering o = live(order);
            return o == null ? UNKNOWN : i >= 0 && i < o.entries().size() ? o.entries().get(i) : NONE;
        }

        int leaf(int order, int i) {
            Ordering o = live(order);
            return o == null ? UNKNOWN : i >= 0 && i < o.leaves.size() ? o.leaves.get(i).size() : NONE;
        }

        int letters(long w) {
            StringBuilder come = new StringBuilder();
            boolean ended = false;
            for (int i = 0; i < 8; i++) {
                int code = (int) (w >>> 8 * i) & 0xff;
                if (code > 126 || (ended && code != 0)) {
                    return OUTSIDE;
                }
                if (code == 0) {
                    ended = true;
                } else {
                    come.append((char) code);
                }
            }
            if (page.length() + come.length() > 60) {
                return FULL;
            }
            page += come;
            return page.length();
        }

        int blank() {
            int had = page.length();
            page = "";
            return had;
        }

        private static boolean isText(String s) {
            if (!s.matches("([a-d][<=>][0-9][0-9]?(&[a-d][<=>][0-9][0-9]?)*)?:[a-d]{1,4}(/[a-d])?")) {
                return false;
            }
            String shown = s.substring(s.indexOf(':') + 1).replaceAll("/.*", "");
            return shown.chars().distinct().count() == shown.length();
        }

        int good() {
            int best = 0;
            for (int n = 1; n <= page.length(); n++) {
                for (String end : new String[] {"", "a", ":a", "0:a", "=0:a", "a=0:a"}) {
                    if (isText(page.substring(0, n) + end)) {
                        best = n;
                    }
                }
            }
            return best;
        }

        int ask() {
            if (!isText(page)) {
                return STATE;
            }
            if (questions.size() == 8) {
                return FULL;
            }
            Asked q = new Asked();
            String[] halves = page.split(":");
            for (String condition : halves[0].split("&")) {
                if (condition.isEmpty()) {
                    continue;
                }
                int c = condition.charAt(0) - 'a', v = Integer.parseInt(condition.substring(2));
                char sign = condition.charAt(1);
                q.least[c] = Math.max(q.least[c], sign == '<' ? 0 : sign == '=' ? v : v + 1);
                q.greatest[c] = Math.min(q.greatest[c], sign == '<' ? v - 1 : sign == '=' ? v : 99);
            }
            String[] ends = halves[1].split("/");
            ends[0].chars().forEach(letter -> q.shown.add(letter - 'a'));
            q.sorted = ends.length > 1 ? ends[1].charAt(0) - 'a' : NONE;
            page = "";
            questions.add(q);
            return questions.size() - 1;
        }

        int bound(int question, int column, int side) {
            Asked q = asked(question);
            if (q == null || !column(column)) {
                return UNKNOWN;
            }
            if (side < 0 || side > 1) {
                return OUTSIDE;
            }
            boolean none = q.least[column] > q.greatest[column];
            return side == 0 ? (none ? 0 : q.least[column]) : none ? -1 : q.greatest[column];
        }

        int weight(int question, int v) {
            Asked q = asked(question);
            if (q == null) {
                return UNKNOWN;
            }
            if (!number(v)) {
                return OUTSIDE;
            }
            int was = q.weight;
            q.weight = v;
            return was;
        }

        private List<Integer> theAnswer(Asked q) {
            List<Integer> found = new ArrayList<>();
            for (int s : slots()) {
                if (q.lets(rows[s], ALL)) {
                    found.add(s);
                }
            }
            if (q.sorted != NONE) {
                found.sort(Comparator.comparing((Integer s) -> rows[s][q.sorted]).thenComparing(s -> s));
            }
            return found;
        }

        int answers(int question) {
            Asked q = asked(question);
            return q == null ? UNKNOWN : theAnswer(q).size();
        }

        int answer(int question, int i) {
            Asked q = asked(question);
            if (q == null) {
                return UNKNOWN;
            }
            return i >= 0 && i < theAnswer(q).size() ? theAnswer(q).get(i) : NONE;
        }

        private int looksOf(Asked q, int way) {
            int sorting = q.sorted != NONE && !q.fixed(q.sorted) ? theAnswer(q).size() : 0;
            if (way == 0) {
                return pages(slots()) + sorting;
            }
            if (way >= 1 && way <= 8) {
                Ordering o = live(way - 1);
                if (o == null) {
                    return UNKNOWN;
                }
                int looks = o.climb(q) + (o.allInKey(q) ? 0 : pages(o.leaves(q)));
                return looks + (o.bringsSorted(q) ? 0 : sorting);
            }
            Ordering o = way < 100 ? null : live((way - 100) / 10);
            Ordering p = way < 100 ? null : live((way - 100) % 10);
            if (o == null || p == null || (way - 100) / 10 >= (way - 100) % 10) {
                return UNKNOWN;
            }
            Set<Integer> both = new TreeSet<>(o.leaves(q));
            both.retainAll(p.leaves(q));
            return o.climb(q) + p.climb(q) + pages(both) + sorting;
        }

        int looks(int question, int way) {
            Asked q = asked(question);
            return q == null ? UNKNOWN : looksOf(q, way);
        }

        int run(int question, int order) {
            Asked q = asked(question);
            Ordering o = live(order);
            if (q == null || o == null) {
                return UNKNOWN;
            }
            return (int) o.entries().stream().filter(s -> q.lets(rows[s], o.runColumns(q))).count();
        }

        private int[] allLooks(Asked q) {
            int[] all = new int[178];
            for (int way = 0; way < all.length; way++) {
                all[way] = looksOf(q, way);
            }
            return all;
        }

        private static int bestOf(int[] all, int set) {
            int best = 0;
            for (int way = 1; way < all.length; way++) {
                int uses = way < 100 ? (1 << way) >> 1 : 1 << (way - 100) / 10 | 1 << (way - 100) % 10;
                if (all[way] >= 0 && (uses & set) == uses && all[way] < all[best]) {
                    best = way;
                }
            }
            return best;
        }

        int best(int question, int set) {
            Asked q = asked(question);
            if (q == null) {
                return UNKNOWN;
            }
            return set < 0 || set > 255 ? OUTSIDE : bestOf(allLooks(q), set);
        }

        private List<int[]> allTables() {
            List<int[]> tables = new ArrayList<>();
            questions.forEach(q -> tables.add(allLooks(q)));
            return tables;
        }

        private int workBy(List<int[]> tables, int set) {
            int sum = 0;
            for (int i = 0; i < tables.size(); i++) {
                sum += questions.get(i).weight * tables.get(i)[bestOf(tables.get(i), set)];
            }
            for (int o = 0; o < 8; o++) {
                if ((set >> o & 1) == 1 && live(o) != null) {
                    sum += upkeep * (live(o).height() + 2);
                }
            }
            return sum;
        }

        int work(int set) {
            return set < 0 || set > 255 ? OUTSIDE : workBy(allTables(), set);
        }

        int upkeep(int v) {
            if (!number(v)) {
                return OUTSIDE;
            }
            int was = upkeep;
            upkeep = v;
            return was;
        }

        private int sizes(int set) {
            int sum = 0;
            for (int o = 0; o < 8; o++) {
                sum += (set >> o & 1) == 1 ? live(o).size() : 0;
            }
            return sum;
        }

        private boolean ofLive(int set) {
            for (int o = 0; o < 8; o++) {
                if ((set >> o & 1) == 1 && live(o) == null) {
                    return false;
                }
            }
            return true;
        }

        int choose(int space, int what) {
            if (space < 0 || space > 9999 || what < 0 || what > 2) {
                return OUTSIDE;
            }
            if (choices == 20) {
                return STATE;
            }
            choices++;
            List<int[]> tables = allTables();
            List<int[]> sets = new ArrayList<>();
            for (int set = 0; set < 256; set++) {
                if (ofLive(set) && sizes(set) <= space) {
                    sets.add(new int[] {set, workBy(tables, set), sizes(set)});
                }
            }
            sets.sort(Comparator.<int[]>comparingInt(s -> s[1]).thenComparingInt(s -> s[2]).thenComparingInt(s -> s[0]));
            return sets.get(0)[what];
        }

        int steps(int space, int what) {
            if (space < 0 || space > 9999 || !(what >= 0 && what <= 2 || what >= 10 && what <= 17)) {
                return OUTSIDE;
            }
            if (stepTimes == 20) {
                return STATE;
            }
            stepTimes++;
            List<int[]> tables = allTables();
            List<Integer> came = new ArrayList<>();
            int set = 0;
            while (true) {
                int next = NONE;
                for (int o = 0; o < 8; o++) {
                    int with = set | 1 << o;
                    if (with == set || live(o) == null || sizes(with) > space) {
                        continue;
                    }
                    if (next == NONE || workBy(tables, with) < workBy(tables, set | 1 << next)) {
                        next = o;
                    }
                }
                if (next == NONE || workBy(tables, set | 1 << next) >= workBy(tables, set)) {
                    break;
                }
                set |= 1 << next;
                came.add(next);
            }
            if (what >= 10) {
                return what - 10 < came.size() ? came.get(what - 10) : NONE;
            }
            return what == 0 ? set : what == 1 ? workBy(tables, set) : came.size();
        }

        int worth(int set, int order) {
            if (live(order) == null) {
                return UNKNOWN;
            }
            if (set < 0 || set > 255) {
                return OUTSIDE;
            }
            if ((set >> order & 1) == 0) {
                return UNKNOWN;
            }
            return work(set - (1 << order)) - work(set);
        }

        int picture(int column) {
            if (!column(column)) {
                return UNKNOWN;
            }
            List<Integer> numbers = new ArrayList<>();
            slots().forEach(s -> numbers.add(rows[s][column]));
            Collections.sort(numbers);
            int n = numbers.size(), any = 0;
            List<List<Integer>> parts = new ArrayList<>();
            for (int i = 0; i < 4; i++) {
                parts.add(numbers.subList(i * n / 4, (i + 1) * n / 4));
                any += parts.get(i).isEmpty() ? 0 : 1;
            }
            pictures.set(column, parts);
            pictureRows = n;
            return any;
        }

        int part(int column, int i, int what) {
            if (!column(column)) {
                return UNKNOWN;
            }
            if (i < 0 || i > 3 || what < 0 || what > 2) {
                return OUTSIDE;
            }
            if (pictures.get(column) == null || pictures.get(column).get(i).isEmpty()) {
                return NONE;
            }
            List<Integer> part = pictures.get(column).get(i);
            return what == 0 ? part.size() : what == 1 ? Collections.min(part) : Collections.max(part);
        }

        private int foretoldOf(int column, int least, int greatest, int sort) {
            int sum = 0;
            for (List<Integer> part : pictures.get(column)) {
                if (part.isEmpty()) {
                    continue;
                }
                int within = 0, all = 0;
                for (int v = Collections.min(part); v <= Collections.max(part); v++) {
                    all++;
                    within += v >= least && v <= greatest ? 1 : 0;
                }
                if (sort == 0) {
                    sum += within == all ? part.size() : 0;
                } else if (sort == 1) {
                    sum += within > 0 ? part.size() : 0;
                } else {
                    sum += part.size() * within / all;
                }
            }
            return sum;
        }

        int foretold(int column, int least, int greatest, int sort) {
            if (!column(column)) {
                return UNKNOWN;
            }
            if (sort < 0 || sort > 2 || !number(least) || !number(greatest) || least > greatest) {
                return OUTSIDE;
            }
            return pictures.get(column) == null ? NONE : foretoldOf(column, least, greatest, sort);
        }

        private int likelyBy(Asked q, List<Integer> columns) {
            int found = pictureRows;
            for (int c = 0; c < 4; c++) {
                if (columns.contains(c) && q.bound(c) && pictures.get(c) != null) {
                    found = pictureRows == 0 ? 0 : found * foretoldOf(c, q.least[c], q.greatest[c], 2) / pictureRows;
                }
            }
            return found;
        }

        int likely(int question) {
            Asked q = asked(question);
            return q == null ? UNKNOWN : likelyBy(q, ALL);
        }

        int guess(int question, int way) {
            Asked q = asked(question);
            Ordering o = way >= 1 && way <= 8 ? live(way - 1) : null;
            if (q == null || (way != 0 && o == null)) {
                return UNKNOWN;
            }
            int sorting = q.sorted != NONE && !q.fixed(q.sorted) ? likelyBy(q, ALL) : 0;
            if (way == 0) {
                return pages(slots()) + sorting;
            }
            int run = likelyBy(q, o.runColumns(q));
            int looks = o.height() + Math.max(1, (int) Math.ceil(run / (double) o.room()));
            if (!o.allInKey(q)) {
                looks += Math.min(pages(slots()), likelyBy(q, o.columns));
            }
            return looks + (o.bringsSorted(q) ? 0 : sorting);
        }

        int chosen(int question) {
            if (asked(question) == null) {
                return UNKNOWN;
            }
            int best = 0;
            for (int way = 1; way <= 8; way++) {
                if (guess(question, way) >= 0 && guess(question, way) < guess(question, best)) {
                    best = way;
                }
            }
            return best;
        }

        int regret(int question) {
            if (asked(question) == null) {
                return UNKNOWN;
            }
            return looks(question, chosen(question)) - looks(question, best(question, 255));
        }

        int mark() {
            if (marks.size() == 3) {
                return FULL;
            }
            marks.add(rows.clone());
            return marks.size();
        }

        int back(int mark) {
            if (mark < 0 || mark >= marks.size()) {
                return UNKNOWN;
            }
            rows = marks.get(mark).clone();
            orders.forEach(Ordering::packed);
            while (marks.size() > mark + 1) {
                marks.remove(mark + 1);
            }
            return slots().size();
        }

        int count(int what) {
            switch (what) {
                case 0: return slots().size();
                case 1: return pages(slots());
                case 2: return (int) orders.stream().filter(o -> !o.dropped).count();
                case 3: return orders.size();
                case 4: return questions.size();
                case 5: return marks.size();
                case 6: return page.length();
                case 7: return choices;
                case 8: return stepTimes;
                default: return OUTSIDE;
            }
        }

        long digest() {
            List<Integer> all = new ArrayList<>();
            all.add(wide);
            for (int s = 0; s < 64; s++) {
                for (int c = 0; c < 4; c++) {
                    all.add(get(s, c));
                }
            }
            for (int o = 0; o < orders.size(); o++) {
                if (live(o) != null) {
                    for (int what = 0; what <= 4; what++) {
                        all.add(about(o, what));
                    }
                    all.addAll(live(o).entries());
                }
            }
            for (int q = 0; q < questions.size(); q++) {
                for (int c = 0; c < 4; c++) {
                    all.add(bound(q, c, 0));
                    all.add(bound(q, c, 1));
                }
                all.add(questions.get(q).weight);
            }
            all.add(upkeep);
            for (int c = 0; c < 4; c++) {
                for (int i = 0; i < 4; i++) {
                    for (int what = 0; what <= 2; what++) {
                        all.add(part(c, i, what));
                    }
                }
            }
            page.chars().forEach(all::add);
            for (int what = 0; what <= 8; what++) {
                all.add(count(what));
            }
            long h = 241;
            for (int v : all) {
                h = 31 * h + v;
            }
            return h;
        }
    }
}
