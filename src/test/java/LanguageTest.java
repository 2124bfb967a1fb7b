import java.io.IOException;
import java.lang.management.ManagementFactory;
import java.lang.reflect.Constructor;
import java.lang.reflect.Field;
import java.lang.reflect.Method;
import java.lang.reflect.Modifier;
import java.nio.file.Files;
import java.nio.file.Path;
import java.util.ArrayList;
import java.util.Arrays;
import java.util.List;
import java.util.Random;
import java.util.Set;
import java.util.TreeSet;
import java.util.regex.Matcher;
import java.util.regex.Pattern;

/** The rules of LANGUAGE.md that can be looked up: the face, words that are ruled out, and what the calls make. */
public final class LanguageTest {
    private static final String[] FACE = {
        "int write(int)", "int wipe()", "int fault()", "int list()", "int about(int)", "int word(int,int)",
        "int digit(int,int)", "int level(int,int)", "int pattern(int,int)", "int add(int,int)", "int drop(int)",
        "int turn(int,int)", "int rule(int,int,int)", "int study()", "int undo()", "int base(int)", "int slot(int)",
        "int ask(int,int)", "int earns(int)", "int judge(int,long)", "int share(int,boolean)",
        "int see(int,int,int)", "int unsee()", "int which(int)", "int lost(int,int,boolean)", "long seed(long)",
        "int drawn(int)", "int keep(int)", "int again(int)"};
    private static final String[] CONSTANTS = {"BAD", "FULL", "LATE", "NONE", "UNKNOWN"};
    private static final String[] RULED_OUT = {
        "throw", "throws", "try", "catch", "synchronized", "assert", "Random", "System\\.(?!arraycopy)", "package",
        "->", "::", "double", "float", "volatile", "transient", "Object", "Thread"};
    private static final Set<String> LIBRARY = Set.of(
            "Arrays.fill", "Integer.bitCount", "Math.abs", "Math.max", "Math.min", "System.arraycopy");

    private static int wrong = 0;

    private static void check(boolean holds, String what) {
        if (holds) return;
        wrong++;
        System.out.println(what);
    }

    private static String told(Method m) {
        StringBuilder s = new StringBuilder(m.getReturnType() + " " + m.getName() + "(");
        for (Class<?> c : m.getParameterTypes()) s.append(s.charAt(s.length() - 1) == '(' ? "" : ",").append(c);
        return s.append(')').toString();
    }

    private static void face() {
        Set<String> publics = new TreeSet<>();
        Set<String> names = new TreeSet<>();
        for (Method m : BreakLearner.class.getDeclaredMethods()) {
            if (Modifier.isPrivate(m.getModifiers())) continue;
            publics.add(told(m));
            names.add(m.getName());
            check(Modifier.isPublic(m.getModifiers()) && !Modifier.isStatic(m.getModifiers()), "visible: " + m);
        }
        check(publics.equals(new TreeSet<>(Arrays.asList(FACE))), "the face is " + publics);
        Set<String> constants = new TreeSet<>();
        for (Field f : BreakLearner.class.getDeclaredFields()) {
            if (Modifier.isPrivate(f.getModifiers())) continue;
            constants.add(f.getName());
            check(f.toString().startsWith("public static final int "), "visible: " + f);
        }
        fields(BreakLearner.class);
        for (Method m : BreakLearner.class.getDeclaredMethods()) {
            if (Modifier.isPrivate(m.getModifiers())) method(m, names);
        }
        check(constants.equals(new TreeSet<>(Arrays.asList(CONSTANTS))), "the constants are " + constants);
        Constructor<?>[] made = BreakLearner.class.getDeclaredConstructors();
        check(made.length == 1 && Modifier.isPublic(made[0].getModifiers()), "constructors");
        check(Modifier.isFinal(BreakLearner.class.getModifiers()), "the class is not final");
        for (Class<?> c : BreakLearner.class.getDeclaredClasses()) inside(c, names);
        check(BreakLearner.class.getDeclaredClasses().length <= 11, "too many classes");
    }

    private static void inside(Class<?> c, Set<String> publicNames) {
        check(Modifier.isStatic(c.getModifiers()), "not static: " + c);
        fields(c);
        for (Method m : c.getDeclaredMethods()) method(m, publicNames);
    }

    private static void fields(Class<?> c) {
        int fields = 0;
        for (Field f : c.getDeclaredFields()) {
            if (!Modifier.isStatic(f.getModifiers())) fields++;
            else check(Modifier.isFinal(f.getModifiers()), "static, not final: " + f);
        }
        check(fields <= 20, "too many fields: " + c);
    }

    private static void method(Method m, Set<String> publicNames) {
        check(!publicNames.contains(m.getName()), "the name of a public method: " + m);
        check(m.getParameterCount() <= 7, "too many parameters: " + m);
    }

    private static void source() throws IOException {
        String source = Files.readString(Path.of("src/main/java/BreakLearner.java"));
        String code = source.replaceAll("(?s)/\\*.*?\\*/", "").replaceAll("//[^\n]*", "");
        for (String word : RULED_OUT) {
            String whole = Character.isLetter(word.charAt(0)) ? "\\b" + word + (word.endsWith(")") ? "" : "\\b") : word;
            check(!Pattern.compile(whole).matcher(code).find(), "ruled out: " + word);
        }
        Matcher imports = Pattern.compile("import ([^;]*);").matcher(code);
        while (imports.find()) check(imports.group(1).equals("java.util.Arrays"), "import " + imports.group(1));
        Matcher library = Pattern.compile("\\b(Arrays|Integer|Long|Math|System|String)\\.\\w+").matcher(code);
        while (library.find()) check(LIBRARY.contains(library.group()), "library: " + library.group());
        check(source.chars().allMatch(c -> c == '\n' || c >= 32 && c < 127), "signs");
        methodLengths(code);
    }

    /** A method's head stands four or eight blanks in, and its last brace alone in the same column. */
    private static void methodLengths(String code) {
        String head = null;
        int indent = 0;
        int length = 0;
        for (String line : code.split("\n")) {
            length++;
            if (head == null && line.matches(" {4}(| {4})\\S.*\\) \\{")) {
                head = line.trim();
                indent = line.indexOf(head);
                length = 1;
            } else if (head != null && line.equals(" ".repeat(indent) + "}")) {
                check(length <= 60, length + " lines: " + head);
                head = null;
            }
        }
    }

    /** Calls one by one with drawn arguments, ordinary and wild. */
    private static long call(BreakLearner x, Random r) {
        int a = drawn(r);
        int b = drawn(r);
        int c = drawn(r);
        switch (r.nextInt(29)) {
            case 0: return x.write(a);
            case 1: return x.wipe();
            case 2: return x.fault();
            case 3: return x.list();
            case 4: return x.about(a);
            case 5: return x.word(a, b);
            case 6: return x.digit(a, b);
            case 7: return x.level(a, b);
            case 8: return x.pattern(a, b);
            case 9: return x.add(a, b);
            case 10: return x.drop(a);
            case 11: return x.turn(a, b);
            case 12: return x.rule(a, b, c);
            case 13: return x.study();
            case 14: return x.undo();
            case 15: return x.base(a);
            case 16: return x.slot(a);
            case 17: return x.ask(a, b);
            case 18: return x.earns(a);
            case 19: return x.judge(a, r.nextLong() >> r.nextInt(64));
            case 20: return x.share(a, b > 2);
            case 21: return x.see(a, b, c);
            case 22: return x.unsee();
            case 23: return x.which(a);
            case 24: return x.lost(a, b, c > 2);
            case 25: return x.seed(r.nextLong());
            case 26: return x.drawn(a);
            case 27: return x.keep(a);
            default: return x.again(a);
        }
    }

    private static int drawn(Random r) {
        switch (r.nextInt(8)) {
            case 0: return r.nextInt();
            case 1: return r.nextInt(700) - 10;
            case 2: return "Wabcde-".charAt(r.nextInt(7));
            case 3: return Integer.MIN_VALUE;
            case 4: return 111 + r.nextInt(5) * 111111;
            default: return r.nextInt(7) - 1;
        }
    }

    /** Rule 7: no call throws, whatever it is asked, also behind the 512th. */
    private static void neverThrows() {
        for (int seed = 0; seed < 400; seed++) {
            Random r = new Random(seed);
            BreakLearner x = new BreakLearner();
            List<Long> answers = new ArrayList<>();
            for (int i = 0; i < 600; i++) {
                try {
                    answers.add(call(x, r));
                } catch (RuntimeException e) {
                    check(false, "seed " + seed + ", call " + i + " threw " + e);
                }
            }
            if (seed < 20) sameAgain(seed, answers);
        }
    }

    /** Rule 13: the same calls give the same answers. */
    private static void sameAgain(int seed, List<Long> answers) {
        Random r = new Random(seed);
        BreakLearner x = new BreakLearner();
        for (int i = 0; i < answers.size(); i++) {
            check(call(x, r) == answers.get(i), "seed " + seed + ", call " + i + " answered otherwise");
        }
    }

    private static long dearest(BreakLearner x) {
        long sum = 0;
        for (int i = 0; i < 64; i++) {
            sum += x.turn(i % 6, 0) + x.share(i % 6, true) + x.lost(9, 3, false) + x.judge(3, 300003000030000L);
            sum += x.base(0) + x.which(0) + x.drawn(20) + x.keep(0);
        }
        return sum;
    }

    /** All calls of a run live in one room: they make nothing, only the constructor does. */
    private static void room() {
        com.sun.management.ThreadMXBean bean =
                (com.sun.management.ThreadMXBean) ManagementFactory.getThreadMXBean();
        long least = Long.MAX_VALUE;
        for (int i = 0; i < 3; i++) {
            BreakLearner x = new BreakLearner();
            for (int letters : new int[] {123451, 543215, 112233, 554433, 135241, 251413}) x.add(letters, 21);
            for (int l = 0; l < 4; l++) x.study();
            long before = bean.getCurrentThreadAllocatedBytes();
            dearest(x);
            least = Math.min(least, bean.getCurrentThreadAllocatedBytes() - before);
        }
        check(least < 1000, "512 calls made " + least + " bytes");
    }

    public static void main(String[] args) throws IOException {
        face();
        source();
        neverThrows();
        room();
        System.out.println(wrong == 0 ? "the language is kept" : wrong + " rules are broken");
        if (wrong != 0) System.exit(1);
    }
}
