import java.util.ArrayList;
import java.util.List;
import java.util.function.BiConsumer;
import java.util.function.Supplier;
import java.util.function.ToLongFunction;

/**
 * "Refusals .. change nothing", and calls that only tell change nothing: two objects are made by the same calls, one of
 * them gets one call more, and then both are read in all that they tell, also in what later calls make of it.
 */
public final class KeptOrdersRefusals {
    private static final int UNKNOWN = -101, OUTSIDE = -102, STATE = -103, FULL = -104;
    private static final int LOW = Integer.MIN_VALUE, HIGH = Integer.MAX_VALUE;
    private static final int[] KEYS = {1, 7, 38, 2, 11, 117, 4, 22};
    private static final String[] TEXTS = {"a<5&b>2:c/b", ":ab/a", "a=3&b=4:abcd", "b<0:d", "c=1&d>3:cd/d", "a>1:b", ":c", "d=5:d/a"};
    private static final List<BiConsumer<KeptOrders, List<Long>>> READINGS = List.of(
        KeptOrdersRefusals::readState, KeptOrdersRefusals::readLooks, KeptOrdersRefusals::readPictures, KeptOrdersRefusals::readMarks,
        KeptOrdersRefusals::readWhatComes);
    private static int wrong = 0;
    private static int checked = 0;

    public static void main(String[] args) {
        ofAnEmptyObject();
        ofSomeObject();
        ofAFullObject();
        onlyTold();
        System.out.println(wrong == 0 ? checked + " calls changed nothing" : wrong + " of " + checked + " calls are not as due");
        if (wrong != 0) {
            System.exit(1);
        }
    }

    private static void write(KeptOrders x, String text) {
        for (int from = 0; from < text.length(); from += 8) {
            long w = 0;
            for (int i = Math.min(text.length(), from + 8) - 1; i >= from; i--) {
                w = w << 8 | text.charAt(i);
            }
            x.letters(w);
        }
    }

    private static void ask(KeptOrders x, String text) {
        write(x, text);
        x.ask();
    }

    /** Rows with gaps, leaves that were cut, a dropped order, old pictures, two marks, letters that begin a question. */
    private static KeptOrders some() {
        KeptOrders x = new KeptOrders();
        x.wide(5);
        x.fill(77, 18, 10);
        for (int i = 0; i < 4; i++) {
            x.order(KEYS[i]);
        }
        x.fill(5, 8, 10);
        x.mark();
        x.drop(3);
        x.drop(9);
        x.set(20, 1, 4);
        x.mark();
        x.lose(3);
        for (int i = 0; i < 4; i++) {
            ask(x, TEXTS[i]);
        }
        x.weight(0, 7);
        x.upkeep(2);
        x.picture(0);
        x.row(1, 2, 3, 4);
        x.picture(1);
        x.drop(5);
        x.choose(9999, 0);
        x.choose(5, 1);
        x.steps(30, 0);
        write(x, "a=5&");
        return x;
    }

    /** As much of all as there can be; the order 3 is dropped. */
    private static KeptOrders full() {
        KeptOrders x = new KeptOrders();
        for (int i = 0; i < 8; i++) {
            x.order(KEYS[i]);
            ask(x, TEXTS[i]);
        }
        x.fill(8, 20, 10);
        x.mark();
        x.fill(3, 30, 20);
        x.drop(7);
        x.mark();
        x.fill(4, 64, 30);
        x.mark();
        x.lose(3);
        for (int c = 0; c < 4; c++) {
            x.picture(c);
        }
        x.set(9, 0, 3);
        for (int i = 0; i < 20; i++) {
            x.choose(0, 0);
            x.steps(0, 0);
        }
        write(x, "a=1&b=2&c=3&d=4&a=1&b=2&c=3&d=4&a=1&b=2&c=3&a=14&a=15:abcd/a");
        return x;
    }

    // ---- readings: each stays, with the calls ahead of it, below the 512 that an object is used for

    private static void readState(KeptOrders x, List<Long> told) {
        told.add(x.digest());
        for (int o = 0; o < 8; o++) {
            for (int i = 0; i < 30; i++) {
                told.add((long) x.leaf(o, i));
            }
        }
        for (int what = 0; what < 9; what++) {
            told.add((long) x.count(what));
        }
        told.add((long) x.good());
    }

    private static void readLooks(KeptOrders x, List<Long> told) {
        for (int q = 0; q < 8; q++) {
            for (int o = 0; o < 8; o++) {
                told.add((long) x.looks(q, 1 + o));
                told.add((long) x.run(q, o));
            }
            for (int i = 0; i < 6; i++) {
                told.add((long) x.answer(q, i));
            }
            told.add((long) x.looks(q, 0));
            told.add((long) x.looks(q, 101));
            told.add((long) x.answers(q));
            told.add((long) x.best(q, 255));
        }
        for (int set = 1; set < 256; set *= 2) {
            told.add((long) x.work(set));
            told.add((long) x.worth(255, set / 32));
        }
    }

    private static void readPictures(KeptOrders x, List<Long> told) {
        for (int q = 0; q < 8; q++) {
            for (int way = 0; way < 9; way++) {
                told.add((long) x.guess(q, way));
            }
            told.add((long) x.likely(q));
            told.add((long) x.chosen(q));
            told.add((long) x.regret(q));
        }
        for (int c = 0; c < 4; c++) {
            for (int sort = 0; sort < 3; sort++) {
                told.add((long) x.foretold(c, 2, 6, sort));
            }
        }
    }

    private static void readMarks(KeptOrders x, List<Long> told) {
        for (int mark = 2; mark >= 0; mark--) {
            told.add((long) x.back(mark));
            told.add(x.digest());
        }
        for (int i = 0; i < 3; i++) {
            told.add((long) x.mark());
        }
    }

    /** What calls that come then make of it: what the digest may not tell. */
    private static void readWhatComes(KeptOrders x, List<Long> told) {
        for (int i = 0; i < 21; i++) {
            told.add((long) x.choose(60, i % 3));
            told.add((long) x.steps(60, i % 3));
        }
        told.add((long) x.blank());
        told.add((long) x.letters(':' | 'a' << 8));
        told.add((long) x.ask());
        told.add((long) x.looks(4, 0));
        told.add((long) x.looks(4, 1));
        told.add((long) x.order(3));
        told.add((long) x.row(5, 5, 5, 5));
        told.add((long) x.set(0, 0, 6));
        told.add((long) x.fill(6, 3, 50));
        told.add((long) x.weight(0, 3));
        told.add((long) x.upkeep(1));
        told.add((long) x.wide(3));
        for (int o = 0; o < 8; o++) {
            told.add((long) x.pack(o));
        }
        told.add((long) x.picture(2));
        told.add((long) x.mark());
        told.add(x.digest());
    }

    /** The call answers as is due, and nothing is told otherwise behind it than without it. */
    private static void due(Supplier<KeptOrders> made, String name, ToLongFunction<KeptOrders> call, long want) {
        checked++;
        for (BiConsumer<KeptOrders, List<Long>> reading : READINGS) {
            KeptOrders x = made.get();
            KeptOrders twin = made.get();
            long got = call.applyAsLong(x);
            List<Long> told = new ArrayList<>();
            List<Long> toldByTwin = new ArrayList<>();
            reading.accept(x, told);
            reading.accept(twin, toldByTwin);
            if (got != want || !told.equals(toldByTwin)) {
                wrong++;
                System.out.println(name + " answered " + got + ", due is " + want + (told.equals(toldByTwin) ? "" : ", and it changed something"));
                return;
            }
        }
    }

    private static void ofAnEmptyObject() {
        Supplier<KeptOrders> made = KeptOrders::new;
        due(made, "set(0, 0, 0) of none", x -> x.set(0, 0, 0), UNKNOWN);
        due(made, "drop(0) of none", x -> x.drop(0), UNKNOWN);
        due(made, "lose(0) of none", x -> x.lose(0), UNKNOWN);
        due(made, "pack(0) of none", x -> x.pack(0), UNKNOWN);
        due(made, "ask() of none", x -> x.ask(), STATE);
        due(made, "weight(0, 0) of none", x -> x.weight(0, 0), UNKNOWN);
        due(made, "back(0) of none", x -> x.back(0), UNKNOWN);
        due(made, "looks(0, 0) of none", x -> x.looks(0, 0), UNKNOWN);
        due(made, "best(0, 0) of none", x -> x.best(0, 0), UNKNOWN);
        due(made, "worth(1, 0) of none", x -> x.worth(1, 0), UNKNOWN);
        due(made, "regret(0) of none", x -> x.regret(0), UNKNOWN);
    }

    private static void ofSomeObject() {
        Supplier<KeptOrders> made = KeptOrdersRefusals::some;
        due(made, "row(100, 0, 0, 0)", x -> x.row(100, 0, 0, 0), OUTSIDE);
        due(made, "row(0, 0, 0, -1)", x -> x.row(0, 0, 0, -1), OUTSIDE);
        due(made, "set(9, 0, 5), which is empty", x -> x.set(9, 0, 5), UNKNOWN);
        due(made, "set(64, 0, 5)", x -> x.set(64, 0, 5), UNKNOWN);
        due(made, "set(0, 4, 5)", x -> x.set(0, 4, 5), UNKNOWN);
        due(made, "set(0, 3, 100)", x -> x.set(0, 3, 100), OUTSIDE);
        due(made, "set(0, 0, -1)", x -> x.set(0, 0, -1), OUTSIDE);
        due(made, "drop(5), which is empty", x -> x.drop(5), UNKNOWN);
        due(made, "drop(-1)", x -> x.drop(-1), UNKNOWN);
        due(made, "drop(64)", x -> x.drop(64), UNKNOWN);
        due(made, "fill(-1, 1, 1)", x -> x.fill(-1, 1, 1), OUTSIDE);
        due(made, "fill(1, 0, 1)", x -> x.fill(1, 0, 1), OUTSIDE);
        due(made, "fill(1, 65, 1)", x -> x.fill(1, 65, 1), OUTSIDE);
        due(made, "fill(1, 1, 0)", x -> x.fill(1, 1, 0), OUTSIDE);
        due(made, "fill(1, 1, 101)", x -> x.fill(1, 1, 101), OUTSIDE);
        due(made, "wide(1)", x -> x.wide(1), OUTSIDE);
        due(made, "wide(9)", x -> x.wide(9), OUTSIDE);
        due(made, "order(0)", x -> x.order(0), OUTSIDE);
        due(made, "order(6)", x -> x.order(6), OUTSIDE);
        due(made, "order(194)", x -> x.order(194), OUTSIDE);
        due(made, "order(7), which is told", x -> x.order(7), STATE);
        due(made, "lose(3), which is dropped", x -> x.lose(3), UNKNOWN);
        due(made, "lose(4)", x -> x.lose(4), UNKNOWN);
        due(made, "lose(-1)", x -> x.lose(-1), UNKNOWN);
        due(made, "pack(3), which is dropped", x -> x.pack(3), UNKNOWN);
        due(made, "pack(-1)", x -> x.pack(-1), UNKNOWN);
        due(made, "letters with a byte of 127 behind others", x -> x.letters(0x7f3a62L), OUTSIDE);
        due(made, "letters with a byte behind a 0", x -> x.letters(0x3a003aL), OUTSIDE);
        due(made, "ask() of a beginning alone", x -> x.ask(), STATE);
        due(made, "weight(0, 100)", x -> x.weight(0, 100), OUTSIDE);
        due(made, "weight(0, -1)", x -> x.weight(0, -1), OUTSIDE);
        due(made, "weight(4, 5)", x -> x.weight(4, 5), UNKNOWN);
        due(made, "upkeep(100)", x -> x.upkeep(100), OUTSIDE);
        due(made, "upkeep(-1)", x -> x.upkeep(-1), OUTSIDE);
        due(made, "choose(-1, 0)", x -> x.choose(-1, 0), OUTSIDE);
        due(made, "choose(10000, 0)", x -> x.choose(10000, 0), OUTSIDE);
        due(made, "choose(0, 3)", x -> x.choose(0, 3), OUTSIDE);
        due(made, "steps(-1, 0)", x -> x.steps(-1, 0), OUTSIDE);
        due(made, "steps(10000, 0)", x -> x.steps(10000, 0), OUTSIDE);
        due(made, "steps(0, 9)", x -> x.steps(0, 9), OUTSIDE);
        due(made, "steps(0, 18)", x -> x.steps(0, 18), OUTSIDE);
        due(made, "picture(4)", x -> x.picture(4), UNKNOWN);
        due(made, "picture(-1)", x -> x.picture(-1), UNKNOWN);
        due(made, "back(2)", x -> x.back(2), UNKNOWN);
        due(made, "back(-1)", x -> x.back(-1), UNKNOWN);
        refusedTold(made, 4, 4);
    }

    private static void ofAFullObject() {
        Supplier<KeptOrders> made = KeptOrdersRefusals::full;
        due(made, "row(1, 1, 1, 1) of a full table", x -> x.row(1, 1, 1, 1), FULL);
        due(made, "row(1, 1, 1, 100) of a full table", x -> x.row(1, 1, 1, 100), OUTSIDE);
        due(made, "fill(9, 5, 5) of a full table", x -> x.fill(9, 5, 5), 0);
        due(made, "order(2), of dropped KEY, when eight were told", x -> x.order(2), FULL);
        due(made, "order(1) when eight were told", x -> x.order(1), STATE);
        due(made, "lose(3), which is dropped", x -> x.lose(3), UNKNOWN);
        due(made, "lose(8)", x -> x.lose(8), UNKNOWN);
        due(made, "letters above 60", x -> x.letters('a'), FULL);
        due(made, "wrong letters above 60", x -> x.letters(127), OUTSIDE);
        due(made, "ask() when eight were asked", x -> x.ask(), FULL);
        due(made, "weight(8, 0)", x -> x.weight(8, 0), UNKNOWN);
        due(made, "choose(9999, 0) for the time 21", x -> x.choose(9999, 0), STATE);
        due(made, "steps(9999, 0) for the time 21", x -> x.steps(9999, 0), STATE);
        due(made, "mark() with three", x -> x.mark(), FULL);
        due(made, "back(3)", x -> x.back(3), UNKNOWN);
        refusedTold(made, 8, 8);
    }

    /** Calls that only tell, refused: with the first numbers that no ORDER and no QUESTION has. */
    private static void refusedTold(Supplier<KeptOrders> made, int noOrder, int noQuestion) {
        due(made, "get(64, 0)", x -> x.get(64, 0), UNKNOWN);
        due(made, "get(0, -1)", x -> x.get(0, -1), UNKNOWN);
        due(made, "about of none", x -> x.about(noOrder, 0), UNKNOWN);
        due(made, "about of a dropped one", x -> x.about(3, 0), UNKNOWN);
        due(made, "about(0, 5)", x -> x.about(0, 5), OUTSIDE);
        due(made, "entry of a dropped one", x -> x.entry(3, 0), UNKNOWN);
        due(made, "leaf of a dropped one", x -> x.leaf(3, 0), UNKNOWN);
        due(made, "bound of none", x -> x.bound(noQuestion, 0, 0), UNKNOWN);
        due(made, "bound(0, 4, 0)", x -> x.bound(0, 4, 0), UNKNOWN);
        due(made, "bound(0, 0, 2)", x -> x.bound(0, 0, 2), OUTSIDE);
        due(made, "answers of none", x -> x.answers(noQuestion), UNKNOWN);
        due(made, "answer of none", x -> x.answer(noQuestion, 0), UNKNOWN);
        due(made, "looks of none", x -> x.looks(noQuestion, 0), UNKNOWN);
        due(made, "looks by a dropped one", x -> x.looks(0, 4), UNKNOWN);
        due(made, "looks by 1 and 0", x -> x.looks(0, 110), UNKNOWN);
        due(made, "run of none", x -> x.run(noQuestion, 0), UNKNOWN);
        due(made, "run of a dropped one", x -> x.run(0, 3), UNKNOWN);
        due(made, "best of none", x -> x.best(noQuestion, 0), UNKNOWN);
        due(made, "best(0, 256)", x -> x.best(0, 256), OUTSIDE);
        due(made, "work(256)", x -> x.work(256), OUTSIDE);
        due(made, "work(-1)", x -> x.work(-1), OUTSIDE);
        due(made, "worth of a dropped one", x -> x.worth(255, 3), UNKNOWN);
        due(made, "worth(256, 0)", x -> x.worth(256, 0), OUTSIDE);
        due(made, "worth(2, 0)", x -> x.worth(2, 0), UNKNOWN);
        due(made, "part(4, 0, 0)", x -> x.part(4, 0, 0), UNKNOWN);
        due(made, "part(0, 4, 0)", x -> x.part(0, 4, 0), OUTSIDE);
        due(made, "foretold(4, 0, 0, 0)", x -> x.foretold(4, 0, 0, 0), UNKNOWN);
        due(made, "foretold(0, 1, 0, 0)", x -> x.foretold(0, 1, 0, 0), OUTSIDE);
        due(made, "likely of none", x -> x.likely(noQuestion), UNKNOWN);
        due(made, "guess of none", x -> x.guess(noQuestion, 0), UNKNOWN);
        due(made, "guess by a dropped one", x -> x.guess(0, 4), UNKNOWN);
        due(made, "guess(0, LOW)", x -> x.guess(0, LOW), UNKNOWN);
        due(made, "guess(0, HIGH)", x -> x.guess(0, HIGH), UNKNOWN);
        due(made, "chosen of none", x -> x.chosen(noQuestion), UNKNOWN);
        due(made, "regret of none", x -> x.regret(noQuestion), UNKNOWN);
        due(made, "count(9)", x -> x.count(9), OUTSIDE);
        due(made, "count(-1)", x -> x.count(-1), OUTSIDE);
    }

    /** Calls that are answered and tell something alone. */
    private static void onlyTold() {
        Supplier<KeptOrders> made = KeptOrdersRefusals::some;
        List<ToLongFunction<KeptOrders>> calls = List.of(
            x -> x.get(0, 0), x -> x.get(9, 0), x -> x.about(0, 4), x -> x.entry(0, 5), x -> x.entry(0, 64), x -> x.leaf(1, 0),
            x -> x.leaf(1, 99), x -> x.good(), x -> x.bound(3, 1, 1), x -> x.answers(0), x -> x.answer(0, 1), x -> x.answer(0, 99),
            x -> x.looks(0, 0), x -> x.looks(0, 1), x -> x.looks(2, 101), x -> x.run(0, 1), x -> x.best(0, 255), x -> x.work(255),
            x -> x.worth(7, 1), x -> x.part(0, 0, 1), x -> x.part(2, 0, 0), x -> x.foretold(0, 0, 5, 2), x -> x.foretold(2, 0, 5, 2),
            x -> x.likely(0), x -> x.guess(0, 1), x -> x.chosen(0), x -> x.regret(0), x -> x.count(0), x -> x.digest(), x -> x.letters(0));
        for (int i = 0; i < calls.size(); i++) {
            due(made, "the telling call " + i, calls.get(i), calls.get(i).applyAsLong(made.get()));
        }
    }
}
