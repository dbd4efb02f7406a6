import java.nio.file.Files;
import java.nio.file.Path;
import java.util.LinkedHashMap;
import java.util.Map;
import java.util.regex.Matcher;
import java.util.regex.Pattern;

/** README.md: its example stands here line by line and answers what it says there; every call is told in it. */
public final class KeptOrdersReadme {
    private static final Map<String, Long> ANSWERS = new LinkedHashMap<>();
    private static int wrong = 0;

    public static void main(String[] args) throws Exception {
        String root = System.getProperty("project", ".");
        String readme = Files.readString(Path.of(root, "README.md"));
        example();
        exampleIsThere(readme, Files.readString(Path.of(root, "src/test/java/KeptOrdersReadme.java")));
        answersAreTold(readme);
        everyCallIsTold(readme);
        System.out.println(wrong == 0 ? "README.md is as due" : wrong + " things in README.md are not as due");
        if (wrong != 0) {
            System.exit(1);
        }
    }

    private static void fault(String what) {
        wrong++;
        System.out.println(what);
    }

    private static void example() {
        // the example
        KeptOrders x = new KeptOrders();
        int came = x.fill(12345, 20, 10);       // 20: rows came, of made-up numbers below 10
        int first = x.row(5, 7, 0, 99);         // 20: the slot of one more row
        int byA = x.order(1);                   // 0: the order by a
        int byBAndA = x.order(11);              // 1: the order by b, then a (b is 2, a is 1: 2 times 5, and 1)
        say(x, "a>6&b<5:ab/b");                 // rows with a above 6 and b below 5; a and b shown, sorted by b
        int question = x.ask();                 // 0
        int rows = x.answers(question);         // 3
        int slot = x.answer(question, 0);       // 14: the first row of the answer
        int byTable = x.looks(question, 0);     // 9: looks by the table
        int byOrder = x.looks(question, 2);     // 5: by order 1, which covers the question and sorts it
        int byBoth = x.looks(question, 101);    // 14: by orders 0 and 1 together
        int way = x.best(question, 3);          // 2: the best way with orders 0 and 1 kept
        int set = x.choose(30, 0);              // 2: the best set of orders within 30 pages, as bits
        int parts = x.picture(0);               // 4: a picture of column a
        int foretold = x.guess(question, 1);    // 16: looks by order 0, as the pictures foretell them
        int mark = x.mark();                    // 1: there is one mark now
        int left = x.drop(slot);                // 20: rows are left
        int back = x.back(0);                   // 21: rows are as they were at mark 0
        int refused = x.drop(64);               // -101: UNKNOWN, there is no such slot
        // its end
        Object[] told = {"came", came, "first", first, "byA", byA, "byBAndA", byBAndA, "question", question, "rows", rows,
            "slot", slot, "byTable", byTable, "byOrder", byOrder, "byBoth", byBoth, "way", way, "set", set, "parts", parts,
            "foretold", foretold, "mark", mark, "left", left, "back", back, "refused", refused};
        for (int i = 0; i < told.length; i += 2) {
            ANSWERS.put((String) told[i], (long) (Integer) told[i + 1]);
        }
    }

    // the helper
    static void say(KeptOrders x, String text) {
        for (int from = 0; from < text.length(); from += 8) {
            long w = 0;
            for (int i = Math.min(text.length(), from + 8) - 1; i >= from; i--) {
                w = w << 8 | text.charAt(i);
            }
            x.letters(w);
        }
    }
    // its end

    /** Both pieces of this file, without what they are indented by, stand in README.md as they are here. */
    private static void exampleIsThere(String readme, String here) {
        int pieces = 0;
        Matcher piece = Pattern.compile("(?s)\n( *)// the (?:example|helper)\n(.*?)\n *// its end\n").matcher(here);
        while (piece.find()) {
            pieces++;
            for (String line : piece.group(2).split("\n")) {
                String shown = line.substring(Math.min(line.length(), piece.group(1).length()));
                if (!readme.contains("\n" + shown + "\n")) {
                    fault("README.md lacks the line: " + shown);
                }
            }
        }
        if (pieces != 2) {
            fault(pieces + " pieces of the example were found");
        }
    }

    private static void answersAreTold(String readme) {
        int seen = 0;
        Matcher line = Pattern.compile("\nint (\\w+) = [^\n]*// (-?\\d+)(?=[:\n])").matcher(readme);
        while (line.find()) {
            seen++;
            Long due = ANSWERS.get(line.group(1));
            if (due == null || due != Long.parseLong(line.group(2))) {
                fault("README.md tells " + line.group(2) + " for " + line.group(1) + ", which is " + due);
            }
        }
        if (seen != ANSWERS.size()) {
            fault("README.md tells " + seen + " answers of " + ANSWERS.size());
        }
    }

    private static void everyCallIsTold(String readme) {
        for (var method : KeptOrders.class.getDeclaredMethods()) {
            boolean isOpen = java.lang.reflect.Modifier.isPublic(method.getModifiers());
            if (isOpen && !readme.contains("`" + method.getName() + "(")) {
                fault("README.md does not tell " + method.getName());
            }
        }
        for (var field : KeptOrders.class.getFields()) {
            if (!readme.contains("`" + field.getName() + "`")) {
                fault("README.md does not tell " + field.getName());
            }
        }
    }
}
