import java.lang.reflect.Constructor;
import java.lang.reflect.Field;
import java.lang.reflect.Member;
import java.lang.reflect.Method;
import java.lang.reflect.Modifier;
import java.nio.file.Files;
import java.nio.file.Path;
import java.util.ArrayList;
import java.util.List;
import java.util.Set;
import java.util.TreeSet;
import java.util.regex.Matcher;
import java.util.regex.Pattern;

/** The face of the class, the rules of the language that can be read off its text, and what a run of calls makes. */
public final class KeptOrdersFace {
    private static final String[] METHODS = {
        "int row(int,int,int,int)", "int set(int,int,int)", "int drop(int)", "int fill(int,int,int)", "int get(int,int)",
        "int wide(int)", "int order(int)", "int lose(int)", "int pack(int)", "int about(int,int)", "int entry(int,int)",
        "int leaf(int,int)", "int letters(long)", "int blank()", "int good()", "int ask()", "int bound(int,int,int)",
        "int weight(int,int)", "int answers(int)", "int answer(int,int)", "int looks(int,int)", "int run(int,int)",
        "int best(int,int)", "int work(int)", "int upkeep(int)", "int choose(int,int)", "int steps(int,int)",
        "int worth(int,int)", "int picture(int)", "int part(int,int,int)", "int foretold(int,int,int,int)",
        "int likely(int)", "int guess(int,int)", "int chosen(int)", "int regret(int)", "int mark()", "int back(int)",
        "int count(int)", "long digest()"};
    private static final String[] CONSTANTS = {"FULL", "NONE", "OUTSIDE", "STATE", "UNKNOWN"};
    private static int wrong = 0;

    public static void main(String[] args) throws Exception {
        face();
        classesInside();
        text(System.getProperty("project", "."));
        made();
        System.out.println(wrong == 0 ? "the face and the text are as due" : wrong + " things are not as due");
        if (wrong != 0) {
            System.exit(1);
        }
    }

    private static void due(String what, Object got, Object want) {
        if (!got.equals(want)) {
            wrong++;
            System.out.println(what + " is " + got + ", due is " + want);
        }
    }

    private static boolean isOpen(Member member) {
        return !Modifier.isPrivate(member.getModifiers()) && !member.isSynthetic();
    }

    private static void face() {
        Class<?> c = KeptOrders.class;
        due("public and final", c.getModifiers() & (Modifier.PUBLIC | Modifier.FINAL), Modifier.PUBLIC | Modifier.FINAL);
        due("what it extends", c.getSuperclass(), Object.class);
        due("interfaces", c.getInterfaces().length, 0);
        Set<String> methods = new TreeSet<>();
        for (Method m : c.getDeclaredMethods()) {
            if (isOpen(m)) {
                List<String> takes = new ArrayList<>();
                for (Class<?> type : m.getParameterTypes()) {
                    takes.add(type.getName());
                }
                due(m.getName() + " is public alone", m.getModifiers(), Modifier.PUBLIC);
                methods.add(m.getReturnType().getName() + " " + m.getName() + "(" + String.join(",", takes) + ")");
            }
        }
        due("methods", methods, new TreeSet<>(List.of(METHODS)));
        Set<String> constants = new TreeSet<>();
        for (Field f : c.getDeclaredFields()) {
            if (isOpen(f)) {
                due(f.getName() + " is an int", f.getType(), int.class);
                due(f.getName() + " is public, static and final", f.getModifiers(), Modifier.PUBLIC | Modifier.STATIC | Modifier.FINAL);
                constants.add(f.getName());
            }
        }
        due("constants", constants, new TreeSet<>(List.of(CONSTANTS)));
        Constructor<?>[] made = c.getDeclaredConstructors();
        due("constructors", made.length, 1);
        due("the constructor is public", Modifier.isPublic(made[0].getModifiers()), true);
        due("what the constructor takes", made[0].getParameterCount(), 0);
    }

    private static void classesInside() {
        Set<String> open = new TreeSet<>();
        for (String method : METHODS) {
            open.add(method.replaceAll("\\w+ (\\w+)\\(.*", "$1"));
        }
        List<Class<?>> all = new ArrayList<>(List.of(KeptOrders.class.getDeclaredClasses()));
        due("at most twelve classes", all.size() + 1 <= 12, true);
        for (Class<?> c : all) {
            due(c + " is static", Modifier.isStatic(c.getModifiers()), true);
            due(c + " is not public or protected", c.getModifiers() & (Modifier.PUBLIC | Modifier.PROTECTED), 0);
        }
        all.add(KeptOrders.class);
        for (Class<?> c : all) {
            int fields = 0;
            for (Field f : c.getDeclaredFields()) {
                boolean isStatic = Modifier.isStatic(f.getModifiers());
                due(f + ": a static one is final", !isStatic || Modifier.isFinal(f.getModifiers()), true);
                fields += isStatic ? 0 : 1;
            }
            due(c + " has at most twenty fields", fields <= 20, true);
            for (Method m : c.getDeclaredMethods()) {
                due(m + " takes at most seven", m.getParameterCount() <= 7, true);
                boolean namesake = (c != KeptOrders.class || Modifier.isPrivate(m.getModifiers())) && open.contains(m.getName());
                due(m + " bears a public one's name", namesake, false);
            }
        }
    }

    private static void text(String root) throws Exception {
        String text = Files.readString(Path.of(root, "src/main/java/KeptOrders.java"));
        String code = text.replaceAll("(?s)/\\*.*?\\*/", "").replaceAll("//[^\n]*", "");
        String banned = "\\bimport\\b|\\bpackage\\b|->|::|\\bcatch\\b|\\btry\\b|\\bthrow\\b|\\bthrows\\b|\\bfinally\\b|\\bassert\\b"
            + "|\\bsynchronized\\b|\\brecord\\b|\\bvar\\b|\\bSystem\\b|\\bdouble\\b|\\bfloat\\b|\\bString\\b|\\bequals\\b|\\bhashCode\\b|@";
        Matcher found = Pattern.compile(banned).matcher(code);
        while (found.find()) {
            due("in the text", found.group(), "nothing of the kind");
        }
        Matcher library = Pattern.compile("\\b(Math|Long|Integer|Arrays|Character)\\.(\\w+)").matcher(code);
        while (library.find()) {
            due(library.group() + " is in the language", Set.of("Math.min", "Math.max", "Long.bitCount", "Integer.bitCount").contains(library.group()), true);
        }
        for (char sign : text.toCharArray()) {
            due("a sign of the text is 1 to 126", sign >= 1 && sign <= 126, true);
        }
        // each division is by a written number, but for the two that test their divisor themselves
        Matcher division = Pattern.compile("[^\n]*[/%]=? *[A-Za-z(][^\n]*").matcher(code);
        while (division.find()) {
            due("a divisor is tested in " + division.group().trim(), division.group().contains("b > 0 ?"), true);
        }
        methodsAreShort(code);
    }

    private static void methodsAreShort(String code) {
        int from = 0;
        String[] lines = code.split("\n");
        for (int i = 0; i < lines.length; i++) {
            if (lines[i].matches(" {4}(?: {4})?[\\w].*\\) \\{")) {
                from = i;
            } else if (lines[i].matches(" {4}(?: {4})?\\}") && from > 0) {
                due("a method's lines up to " + i + " are at most 60", i - from <= 60, true);
                from = 0;
            }
        }
    }

    /** The dearest calls of a run must make next to nothing. */
    private static void made() {
        com.sun.management.ThreadMXBean bean = (com.sun.management.ThreadMXBean) java.lang.management.ManagementFactory.getThreadMXBean();
        long thread = Thread.currentThread().getId();
        long made = Long.MAX_VALUE;
        for (int round = 0; round < 5; round++) {
            long before = bean.getThreadAllocatedBytes(thread);
            dearRun();
            made = Math.min(made, bean.getThreadAllocatedBytes(thread) - before);
        }
        due("a run of some 500 calls makes less than 100,000 bytes, and made " + made, made < 100000, true);
    }

    private static void dearRun() {
        KeptOrders x = new KeptOrders();
        x.fill(5, 64, 20);
        int[] keys = {1, 2, 3, 4, 7, 11, 38, 44};
        for (int key : keys) {
            x.order(key);
        }
        for (int q = 0; q < 8; q++) {
            x.letters('a' | '=' << 8 | '0' + q << 16 | (long) '&' << 24 | (long) 'b' << 32 | (long) '>' << 40 | (long) '3' << 48);
            x.letters(':' | 'c' << 8 | '/' << 16 | (long) 'd' << 24);
            x.ask();
        }
        for (int i = 0; i < 20; i++) {
            x.choose(9999, 1);
            x.steps(9999, 1);
        }
        for (int i = 0; i < 48; i++) {
            x.work(255);
            x.worth(255, 3);
            x.regret(i % 8);
            x.good();
            x.set(i, 0, i);
            x.fill(i, 1, 100);
            x.back(x.mark() < 0 ? 2 : 0);
            x.digest();
        }
    }
}
