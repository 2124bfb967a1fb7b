import java.math.BigInteger;
import java.util.ArrayList;
import java.util.Comparator;
import java.util.List;
import java.util.TreeMap;
import java.util.TreeSet;
import java.util.function.Supplier;
import java.util.function.ToLongFunction;

/**
 * Each sentence of the document that names a boundary case, with a test of its own: too small, too large, empty, full,
 * a wrap-around, a refused call. Answers are worked out by hand, or by a plain count in the test itself.
 */
public final class BoundaryTest {
    private static final int UNKNOWN = -1, BAD = -2, LATE = -3, FULL = -4, NONE = -9;
    private static final int LEAST = Integer.MIN_VALUE, MOST = Integer.MAX_VALUE;
    /** Level 1 keeps a with gap 1 and b with gap 0, level 2 bc with gap 0; then all four places are right. */
    private static final String THREE = "Wa-bWa-bWabc";
    /** Of 7 places 3 have a break. bb with gap 0 and 2 is kept by 1, then by 3; b with gap 0 and 1 by 2, then by 4. */
    private static final String FOUR_LEVELS = "Wbb-b-b-bbWbbb";
    private static final String SIX = "WabWabWabWabWabWab";
    /** Sixty letters: as long as five words can be told. */
    private static final String FIVE_LONG = "Wa-b-c-d-e-a".repeat(5);

    private static String sentence = "";
    private static int tests = 0;
    private static int asked = 0;
    private static int wrong = 0;

    // ---- how it is tested

    private static void test(String where, String said, Runnable test) {
        sentence = where + ", \"" + said + "\"";
        tests++;
        int before = asked;
        try {
            test.run();
        } catch (RuntimeException e) {
            fail("threw " + e);
        }
        if (asked == before) fail("asks nothing");
    }

    private static void fail(String what) {
        wrong++;
        System.out.println(sentence + ": " + what);
    }

    private static void due(String call, long got, long want) {
        asked++;
        if (got != want) fail(call + " answered " + got + ", due is " + want);
    }

    private static BreakLearner written(String text) {
        BreakLearner x = new BreakLearner();
        for (int i = 0; i < text.length(); i++) x.write(text.charAt(i));
        return x;
    }

    private static BreakLearner listed(String text) {
        BreakLearner x = written(text);
        x.list();
        return x;
    }

    private static BreakLearner learnt(String text, int levels) {
        BreakLearner x = listed(text);
        for (int i = 0; i < levels; i++) x.study();
        return x;
    }

    /** Six words of six letters, each place with a break, which a with gap 0 and 1 breaks. */
    private static BreakLearner thirtyPlaces() {
        BreakLearner x = new BreakLearner();
        for (int i = 0; i < 6; i++) x.add(111111, 31);
        x.study();
        return x;
    }

    /** Something of all that an object can hold, with room left: shelf 1 is empty, and the text is not at its end. */
    private static BreakLearner busy() {
        BreakLearner x = learnt(THREE, 1);
        x.keep(0);
        x.study();
        x.rule(3, 1, 2);
        x.add(312, 2);
        x.turn(1, 0);
        x.drop(0);
        x.see(0, 1, 1);
        x.see(1, 2, 0);
        x.seed(5);
        x.write('W');
        x.write('c');
        return x;
    }

    /** All that can be full is: 64 letters, 6 words, 4 levels, 14 doings, 6 sights, both shelves. */
    private static BreakLearner full() {
        BreakLearner x = listed(FIVE_LONG + "Wa-b");
        x.turn(0, 0);
        x.keep(0);
        for (int i = 0; i < 4; i++) x.study();
        x.keep(1);
        for (int h = 2; h <= 9; h++) x.rule(4, 1, h);
        x.turn(1, 4);
        for (int i = 0; i < 6; i++) x.see(i % 2, 4 - i % 3, 0);
        x.seed(-1);
        return x;
    }

    /** Levels are learnt and words are there, but no doing can be undone. */
    private static BreakLearner goneOn() {
        BreakLearner x = busy();
        x.again(0);
        return x;
    }

    private static void look(BreakLearner x, List<Long> answers) {
        for (int what = 0; what <= 10; what++) answers.add((long) x.about(what));
        for (int word = 0; word < x.about(0); word++) {
            for (int what = 0; what <= 2; what++) answers.add((long) x.word(word, what));
        }
        for (int level = 1; level <= 4; level++) {
            for (int what = 0; what <= 2; what++) answers.add((long) x.level(level, what));
        }
        answers.add((long) x.fault());
        answers.add((long) x.which(0));
        answers.add((long) x.which(1));
    }

    /** All that can be found out about an object, doings, shelves, text and seed too; some 300 calls. */
    private static List<Long> traceOf(BreakLearner x) {
        List<Long> answers = new ArrayList<>();
        look(x, answers);
        for (int left = x.undo(); left >= 0; left = x.undo()) {
            answers.add((long) left);
            for (int what = 0; what <= 4; what++) answers.add((long) x.about(what));
        }
        look(x, answers);
        for (int shelf = 0; shelf <= 1; shelf++) {
            answers.add((long) x.again(shelf));
            look(x, answers);
        }
        answers.add(x.seed(0));
        answers.add((long) x.list());
        look(x, answers);
        return answers;
    }

    /** A call leaves an object just as one on which it was not made. */
    private static void changesNothing(Supplier<BreakLearner> made, String call, ToLongFunction<BreakLearner> calls) {
        leaves(made, traceOf(made.get()), call, calls);
    }

    private static void leaves(
            Supplier<BreakLearner> made, List<Long> trace, String call, ToLongFunction<BreakLearner> calls) {
        BreakLearner x = made.get();
        calls.applyAsLong(x);
        asked++;
        if (!traceOf(x).equals(trace)) fail(call + " changes something");
    }

    private static void refused(
            Supplier<BreakLearner> made, String call, ToLongFunction<BreakLearner> calls, int want) {
        due(call, calls.applyAsLong(made.get()), want);
        changesNothing(made, call, calls);
    }

    // ---- terms: words and the text

    private static void calls512() {
        BreakLearner x = new BreakLearner();
        for (int i = 0; i < 255; i++) {
            x.write('W');
            x.wipe();
        }
        x.add(12, 1);
        due("the 512th call", x.study(), 2);
    }

    private static void lettersAToE() {
        for (int c = 0; c <= 255; c++) {
            BreakLearner x = written("Wa");
            x.write(c);
            boolean letter = c >= 'a' && c <= 'e';
            due("fault with " + c + " as second letter", x.fault(), letter ? NONE : c == '-' ? 3 : 2);
        }
        for (int figure = 0; figure <= 9; figure++) {
            int want = figure >= 1 && figure <= 5 ? 1 : BAD;
            due("add, first figure " + figure, new BreakLearner().add(figure * 100 + 11, 0), figure == 0 ? 1 : want);
            due("add, middle figure " + figure, new BreakLearner().add(101 + figure * 10, 0), want);
            due("add, last figure " + figure, new BreakLearner().add(110 + figure, 0), want);
        }
    }

    private static void lettersOfAWord() {
        due("one letter", written("Wa").fault(), 2);
        due("one letter, another word", written("WaWab").fault(), 2);
        due("two letters", listed("Wab").word(0, 0), 12);
        due("six letters", listed("Wabcdee").word(0, 0), 123455);
        due("seven letters", written("Wabcdeea").fault(), 7);
        BreakLearner x = new BreakLearner();
        due("add one", x.add(1, 0), BAD);
        due("add two", x.add(11, 0), 1);
        due("add six", x.add(555555, 0), 2);
        due("add seven", x.add(1111111, 0), BAD);
        due("ask one", x.ask(5, 0), BAD);
        due("ask two", x.ask(55, 0), 0);
        due("ask six", x.ask(111111, 0), 0);
        due("ask seven", x.ask(5555555, 0), BAD);
    }

    private static void placesOfAWord() {
        due("the first place", listed("Wa-bcdea").word(0, 1), 1);
        due("the last place", listed("Wabcde-a").word(0, 1), 16);
        due("the only place", listed("Wa-b").word(0, 1), 1);
        BreakLearner x = listed("WabcdeaWab");
        due("the first place", x.turn(0, 0), 1);
        due("the last place", x.turn(0, 4), 1);
        due("both", x.word(0, 1), 17);
        due("ahead of the first", x.turn(0, -1), UNKNOWN);
        due("behind the last", x.turn(0, 5), UNKNOWN);
        due("the only place", x.turn(1, 0), 1);
        due("behind the only one", x.turn(1, 1), UNKNOWN);
    }

    private static void breakOrNone() {
        due("none at all", listed("Wabcdea").word(0, 1), 0);
        due("all", listed("Wa-b-c-d-e-a").word(0, 1), 31);
    }

    private static void wordsAtMost() {
        BreakLearner x = listed(SIX);
        due("six", x.about(0), 6);
        due("the first", x.word(0, 0), 12);
        due("the last", x.word(5, 0), 12);
        due("there is no seventh", x.word(6, 0), UNKNOWN);
        due("no seventh comes", x.add(12, 0), FULL);
        due("nor is it told", written(SIX + "Wab").fault(), 18);
    }

    private static void textAtMost() {
        BreakLearner x = new BreakLearner();
        for (int i = 1; i <= 64; i++) due("letter " + i, x.write('W'), i);
        due("the 65th", x.write('W'), FULL);
        due("letters", x.about(10), 64);
        due("all 64 are a list", listed(FIVE_LONG + "Wa-b").about(0), 6);
    }

    private static void listOfNone() {
        BreakLearner x = listed("Wab");
        x.wipe();
        due("no fault", x.fault(), NONE);
        due("no word", x.list(), 0);
        due("no word", x.about(0), 0);
        due("a new object lists none", new BreakLearner().list(), 0);
    }

    // ---- terms: the first fault

    private static void faultIn(String text, int want) {
        due("fault of " + text, written(text).fault(), want);
    }

    private static void firstFault() {
        for (String text : new String[] {"a", "-", "w", "f", " ", "\0", "\u00ff", "aW", "-Wab"}) faultIn(text, 0);
        faultIn("Wf", 1);
        faultIn("WabA", 3);
        faultIn("Wf--WW", 1);
        faultIn("WabWa--fW", 6);
        faultIn("WabWab", NONE);
        BreakLearner x = written("Wab-W");
        due("at its place", x.fault(), 4);
        x.write('c');
        due("whatever comes behind it", x.fault(), 4);
    }

    private static void lengthSetAside() {
        faultIn(FIVE_LONG, NONE);
        faultIn(FIVE_LONG + "W", 61);
        faultIn(FIVE_LONG + "Wa-", 63);
        faultIn(FIVE_LONG + "Wa-b", NONE);
        faultIn(FIVE_LONG + "Wab-", 64);
        faultIn(FIVE_LONG + "WabW", 63);
    }

    private static void wBehindOneLetter() {
        faultIn("WaW", 2);
        faultIn("WaWab", 2);
        faultIn("WabWaW", 5);
        faultIn("WW", 1);
        faultIn("WabWWab", 4);
        faultIn("WabW", 4);
    }

    private static void wBehindHyphen() {
        faultIn("Wab-W", 4);
        faultIn("Wa-W", 3);
        faultIn("Wabcde-Wab", 7);
    }

    private static void hyphenBehindW() {
        faultIn("W-", 1);
        faultIn("W-ab", 1);
        faultIn("WabW-", 4);
        faultIn("Wa-", 3);
    }

    private static void hyphenBehindAnother() {
        faultIn("Wa--", 3);
        faultIn("Wa--b", 3);
        faultIn("Wa-b--c", 5);
        faultIn("Wa-b-c", NONE);
    }

    private static void hyphenBehindSixthLetter() {
        faultIn("Wabcdea-", 7);
        faultIn("Wabcdea-W", 7);
        faultIn("WabWabcdea-", 10);
        faultIn("Wabcde-a", NONE);
        faultIn("Wabcde-", 7);
        faultIn("Wabcde-a-", 8);
    }

    private static void seventhLetter() {
        faultIn("Wabcdeab", 7);
        faultIn("Wa-b-c-d-e-ab", 12);
        faultIn("WabWabcdeaa", 10);
        faultIn("Wabcdea", NONE);
        faultIn("WabcdeaWabcdea", NONE);
    }

    private static void seventhWord() {
        faultIn(SIX, NONE);
        faultIn(SIX + "W", 18);
        faultIn(SIX + "Wab", 18);
        faultIn(SIX + "c", NONE);
        faultIn("WabWabWabWabWab" + "W", 16);
    }

    private static void onlyNotAtItsEnd() {
        faultIn("W", 1);
        faultIn("Wa", 2);
        faultIn("Wa-", 3);
        faultIn("Wab-", 4);
        faultIn("WabW", 4);
        faultIn("WabWc", 5);
        faultIn("WabWc-", 6);
    }

    private static void noFault() {
        faultIn("", NONE);
        faultIn("Wab", NONE);
        faultIn("Wa-b", NONE);
        BreakLearner x = written("Wx");
        due("a fault", x.fault(), 1);
        x.wipe();
        due("wiped", x.fault(), NONE);
    }

    private static void noWordsAtFirst() {
        BreakLearner x = new BreakLearner();
        due("words", x.about(0), 0);
        due("places", x.about(1), 0);
        due("the first", x.word(0, 0), UNKNOWN);
    }

    // ---- terms: strings and patterns

    private static boolean isString(int told) {
        return Integer.toString(told).matches("[1-6]?[1-5][1-6]?|[1-5]6|6[1-5]");
    }

    private static void strings() {
        int strings = 0;
        for (int told = -700; told <= 7000; told++) {
            boolean is = isString(told);
            if (is) strings++;
            due("pattern(" + told + ", 0) is BAD", learnt(THREE, 2).pattern(told, 0) == BAD ? 1 : 0, is ? 0 : 1);
        }
        due("5, and 36 less 1, and 6 times 5 times 6", strings, 220);
        for (int told : new int[] {LEAST, MOST, 11111, 666666}) due("string", learnt(THREE, 2).pattern(told, 0), BAD);
    }

    private static void oneLetterAtLeast() {
        BreakLearner x = learnt(THREE, 2);
        for (int told : new int[] {6, 66, 666}) due("string " + told, x.pattern(told, 0), BAD);
        for (int told : new int[] {16, 61, 616}) due("string " + told, x.pattern(told, 0), 0);
    }

    private static void fullStopsAtItsEnds() {
        BreakLearner x = learnt(THREE, 2);
        for (int told : new int[] {161, 661, 166, 666}) due("string " + told, x.pattern(told, 0), BAD);
        for (int told : new int[] {611, 116, 616}) due("string " + told, x.pattern(told, 0), 0);
    }

    private static void gaps() {
        BreakLearner x = new BreakLearner();
        for (int string : new int[] {5, 16, 616}) {
            int signs = Integer.toString(string).length();
            for (int gap = -1; gap <= 5; gap++) {
                due("gap " + gap + " of " + string, x.pattern(string, gap), gap >= 0 && gap <= signs ? 0 : BAD);
            }
        }
        due("gap", x.pattern(111, LEAST), BAD);
        due("gap", x.pattern(111, MOST), BAD);
    }

    /** One list for each way to lie at a place: level 1 keeps just the one pattern. */
    private static void onlyPattern(String text, int string, int gap) {
        BreakLearner x = learnt(text, 1);
        due("patterns of " + text, x.about(4), 1);
        due(string + " with gap " + gap + " of " + text, x.pattern(string, gap), 1);
    }

    private static void fromAllBehindToAllAhead() {
        onlyPattern("Wd-da", 4, 0);
        onlyPattern("Wba-a", 1, 1);
        onlyPattern("Waa-ab", 12, 0);
        onlyPattern("Wb-bWbab", 22, 1);
        onlyPattern("Wab-bb", 12, 2);
        onlyPattern("Wbbb-bba", 221, 0);
        onlyPattern("Wa-baWabba", 121, 1);
        onlyPattern("WabbaWab-a", 121, 2);
        onlyPattern("Wabb-bbb", 122, 3);
    }

    private static void beginningAndEnd() {
        onlyPattern("Wb-bbb", 62, 2);
        onlyPattern("Wb-aWbba", 621, 2);
        onlyPattern("Waa-aaa", 611, 3);
        onlyPattern("Waaa-a", 16, 0);
        onlyPattern("Wbbb-bb", 226, 0);
        onlyPattern("WbaaWb-a", 216, 1);
        BreakLearner begin = learnt("Wb-bbb", 1);
        due("at the beginning", begin.ask(23, 0), 1);
        due("not behind it", begin.ask(323, 1), 0);
        BreakLearner end = learnt("Waaa-a", 1);
        due("at the end", end.ask(31, 0), 1);
        due("not ahead of it", end.ask(313, 0), 0);
    }

    /** There is no place ahead of the first letter, nor behind the last one, nor a word of one letter. */
    private static void noPlaceOutside() {
        BreakLearner x = thirtyPlaces();
        x.rule(1, 1, 9);
        for (int gap = 0; gap <= 1; gap++) due(".a with gap " + gap, x.pattern(61, gap), 0);
        for (int gap = 1; gap <= 2; gap++) due("a. with gap " + gap, x.pattern(16, gap), 0);
        for (int gap = 0; gap <= 3; gap++) due(".a. with gap " + gap, x.pattern(616, gap), 0);
        due("a with gap 0", x.pattern(1, 0), 1);
        due("a with gap 1", x.pattern(1, 1), 1);
        due("patterns", x.about(4), 2);
        BreakLearner apart = listed("Wa-bWc-dWe-a");
        apart.rule(1, 0, 2);
        due("each that lies in a word has good 1, and what would stick out is none", apart.study(), 0);
    }

    // ---- terms: levels and rules

    private static void levels() {
        BreakLearner x = learnt(FOUR_LEVELS, 4);
        due("there is no level 0", x.level(0, 0), UNKNOWN);
        due("level 1", x.level(1, 1), 1);
        due("level 4", x.level(4, 1), 1);
        due("there is no level 5", x.level(5, 0), UNKNOWN);
        due("nor is it learnt", x.study(), FULL);
        due("nor ruled", x.rule(5, 0, 1), UNKNOWN);
        due("nor is level 0", x.rule(0, 0, 1), UNKNOWN);
    }

    private static void rulesAndNumbers() {
        BreakLearner x = new BreakLearner();
        for (int rule = -2; rule <= 5; rule++) {
            for (int h = -2; h <= 12; h++) {
                boolean is = rule >= 0 && rule <= 2 && h >= 1 && h <= 9;
                due("rule(2, " + rule + ", " + h + ")", x.rule(2, rule, h), is ? 0 : BAD);
                if (is) due("rule", x.level(2, 0) * 10 + x.level(2, 1), rule * 10 + h);
            }
        }
        due("the last one that is", x.level(2, 0) * 10 + x.level(2, 1), 29);
    }

    private static void rulesAtFirst() {
        BreakLearner x = new BreakLearner();
        for (int level = 1; level <= 4; level++) {
            due("rule of " + level, x.level(level, 0), 0);
            due("h of " + level, x.level(level, 1), 1);
        }
    }

    /** Words of a, and behind each a what is told: B a b with a break ahead of it, b one without; C and c likewise. */
    private static BreakLearner behindA(String told) {
        BreakLearner x = new BreakLearner();
        for (int from = 0; from < told.length(); from += 3) {
            int letters = 0;
            int breaks = 0;
            for (int i = from; i < Math.min(told.length(), from + 3); i++) {
                char c = told.charAt(i);
                letters = letters * 100 + 10 + Character.toLowerCase(c) - 'a' + 1;
                if (Character.isUpperCase(c)) breaks |= 1 << 2 * (i - from);
            }
            x.add(letters, breaks);
        }
        return x;
    }

    private static boolean keeps(int rule, int h, int good, int bad) {
        if (good == 0) return false;
        if (rule == 0) return good - bad >= h;
        if (rule == 1) return bad == 0 && good >= h;
        return good >= h * bad + h;
    }

    /** At level 1 a with gap 1 has all that is good and all that is bad. */
    private static void ruleAtOddLevel(int rule) {
        for (int good = 0; good <= 12; good++) {
            for (int bad = 0; bad <= 6; bad++) {
                BreakLearner x = behindA("B".repeat(good) + "b".repeat(bad));
                x.study();
                for (int h = 1; h <= 9; h++) {
                    x.rule(1, rule, h);
                    String call = "a, good " + good + ", bad " + bad + ", rule " + rule + ", h " + h;
                    due(call, x.pattern(1, 1), keeps(rule, h, good, bad) ? 1 : 0);
                }
            }
        }
    }

    /** Level 1 breaks behind each a; at level 2 c with gap 0 has good where ac has no break, bad where it has one. */
    private static void ruleAtEvenLevel(int rule) {
        for (int good = 0; good <= 8; good++) {
            for (int bad = 0; bad <= 2; bad++) {
                BreakLearner x = behindA("B".repeat(Math.max(1, good + 1 - bad)) + "C".repeat(bad) + "c".repeat(good));
                x.study();
                x.study();
                for (int h = 1; h <= 9; h++) {
                    x.rule(2, rule, h);
                    String call = "c, good " + good + ", bad " + bad + ", rule " + rule + ", h " + h;
                    due(call, x.pattern(3, 0) == 2 ? 1 : 0, keeps(rule, h, good, bad) ? 1 : 0);
                }
            }
        }
    }

    private static void ruleZero() {
        ruleAtOddLevel(0);
        ruleAtEvenLevel(0);
    }

    private static void ruleOne() {
        ruleAtOddLevel(1);
        ruleAtEvenLevel(1);
    }

    private static void ruleTwo() {
        ruleAtOddLevel(2);
        ruleAtEvenLevel(2);
    }

    private static void nothingGood() {
        for (int rule = 0; rule <= 2; rule++) {
            BreakLearner x = listed("WabcWde");
            for (int level = 1; level <= 4; level++) {
                x.rule(level, rule, 1);
                due("rule " + rule + " at level " + level, x.study(), 0);
            }
            due("patterns", x.about(4), 0);
        }
    }

    private static void digitFromNoneToFour() {
        BreakLearner x = listed(FOUR_LEVELS);
        for (int level = 0; level <= 4; level++) {
            due("digit of the first place", x.digit(0, 0), level);
            due("digit of the last place", x.digit(0, 4), level);
            due("no pattern fits it", x.ask(111, 1), 0);
            x.study();
        }
    }

    private static void kept() {
        BreakLearner x = listed(FOUR_LEVELS);
        int[][] due = {{2, 0, 0, 0}, {2, 2, 0, 0}, {0, 2, 2, 0}, {0, 0, 2, 2}};
        for (int[] counts : due) {
            x.study();
            for (int level = 1; level <= 4; level++) due("of level " + level, x.level(level, 2), counts[level - 1]);
        }
        due("bb with gap 0", x.pattern(22, 0), 3);
        due("b with gap 0", x.pattern(2, 0), 4);
        due("patterns", x.about(4), 4);
    }

    private static void fourteenDoings() {
        BreakLearner x = listed("Wabc");
        for (int i = 1; i <= 14; i++) {
            x.rule(1 + i % 4, i % 3, 1 + i % 9);
            due("doings", x.about(8), i);
        }
        for (int left = 13; left >= 0; left--) due("undone", x.undo(), left);
        due("no more", x.undo(), LATE);
        for (int level = 1; level <= 4; level++) due("as at first", x.level(level, 0) * 10 + x.level(level, 1), 1);
    }

    /** What is done first, then 14 turns, all of which are undone: the first doing stays. */
    private static BreakLearner firstForgotten(BreakLearner x) {
        for (int i = 0; i < 14; i++) {
            x.turn(0, 0);
            due("doings", x.about(8), Math.min(14, i + 2));
        }
        for (int left = 13; left >= 0; left--) due("undone", x.undo(), left);
        due("the first one is forgotten", x.undo(), LATE);
        due("breaks", x.word(0, 1), 1);
        return x;
    }

    private static void theFirstIsForgotten() {
        BreakLearner added = listed("Wa-b");
        added.add(345, 3);
        due("added", firstForgotten(added).about(0), 2);
        BreakLearner dropped = listed("WcdWa-b");
        dropped.drop(0);
        due("dropped", firstForgotten(dropped).about(0), 1);
        BreakLearner turned = listed("WabWa-b");
        turned.turn(0, 0);
        due("turned", firstForgotten(turned).word(0, 1), 1);
        BreakLearner ruled = listed("Wa-b");
        ruled.rule(4, 2, 9);
        due("ruled", firstForgotten(ruled).level(4, 1), 9);
        BreakLearner studied = listed("Wa-b");
        studied.study();
        due("studied", firstForgotten(studied).about(3), 1);
    }

    private static final List<ToLongFunction<BreakLearner>> EIGHTEEN_DOINGS = List.of(
            x -> x.turn(0, 1), x -> x.drop(3), x -> x.study(), x -> x.rule(1, 2, 3), x -> x.add(54321, 9),
            x -> x.drop(0), x -> x.rule(1, 1, 7), x -> x.turn(2, 3), x -> x.rule(4, 2, 9), x -> x.add(12, 1),
            x -> x.study(), x -> x.rule(4, 0, 4), x -> x.drop(1), x -> x.add(555555, 31), x -> x.turn(0, 0),
            x -> x.rule(2, 1, 1), x -> x.study(), x -> x.add(31, 0));

    private static BreakLearner done(int doings) {
        BreakLearner x = listed("WabcWa-bWcdeaWbb");
        for (int i = 0; i < doings; i++) {
            due("doing " + i + " can be", EIGHTEEN_DOINGS.get(i).applyAsLong(x) >= 0 ? 1 : 0, 1);
        }
        return x;
    }

    /** More than can be undone, of all kinds: the last fourteen go back one by one. */
    private static void theLastFourteenAreUndone() {
        BreakLearner x = done(18);
        for (int left = 13; left >= 0; left--) {
            due("undone", x.undo(), left);
            due("as it was", wordsAndRules(x).equals(wordsAndRules(done(left + 4))) ? 1 : 0, 1);
        }
        due("four are forgotten", x.undo(), LATE);
        due("as it was", wordsAndRules(x).equals(wordsAndRules(done(4))) ? 1 : 0, 1);
    }

    private static List<Long> wordsAndRules(BreakLearner x) {
        List<Long> answers = new ArrayList<>();
        answers.add((long) x.about(3));
        for (int word = 0; word < x.about(0); word++) answers.add(x.word(word, 0) * 100L + x.word(word, 1));
        for (int level = 1; level <= 4; level++) answers.add(x.level(level, 0) * 10L + x.level(level, 1));
        return answers;
    }

    /** Words of all lengths, so that a place that was another word's is not taken for one. */
    private static void droppedComeUp() {
        int[] letters = {11, 222, 3333, 44444, 555555, 12};
        for (int gone = 0; gone < 6; gone++) {
            BreakLearner x = listed("WaaWb-bbWccc-cWd-d-d-d-dWeeeeeeWa-b");
            due("drop(" + gone + ")", x.drop(gone), letters[gone]);
            for (int i = 0; i < 5; i++) wordIs(x, i, letters[i < gone ? i : i + 1]);
            due("there is no sixth", x.word(5, 0), UNKNOWN);
            due("nor has it a place", x.turn(5, 0), UNKNOWN);
            due("places", x.about(1), 16 - (Integer.toString(letters[gone]).length() - 1));
            x.undo();
            for (int i = 0; i < 6; i++) wordIs(x, i, letters[i]);
        }
    }

    private static void wordIs(BreakLearner x, int word, int letters) {
        int size = Integer.toString(letters).length();
        due("word " + word, x.word(word, 0), letters);
        due("its last place", x.digit(word, size - 2), 0);
        due("behind its last place", x.digit(word, size - 1), UNKNOWN);
    }

    private static void addedBehindAll() {
        BreakLearner x = new BreakLearner();
        int[] letters = {11, 222, 3333, 44444, 555555, 12};
        for (int i = 0; i < 6; i++) {
            due("add", x.add(letters[i], 1), i + 1);
            for (int j = 0; j <= i; j++) wordIs(x, j, letters[j]);
        }
        for (int left = 5; left >= 0; left--) {
            due("the last one goes", x.undo(), left);
            for (int j = 0; j < left; j++) wordIs(x, j, letters[j]);
            due("it is gone", x.word(left, 0), UNKNOWN);
        }
    }

    private static void asIfLearntAnew(String what, BreakLearner x, String text, int levels) {
        BreakLearner anew = learnt(text, levels);
        for (int i = 0; i <= 7; i++) due(what + ", about(" + i + ")", x.about(i), anew.about(i));
        for (int word = 0; word < anew.about(0); word++) {
            due(what + ", share", x.share(word, true), anew.share(word, true));
            due(what + ", share", x.share(word, false), anew.share(word, false));
        }
        for (int v = 0; v <= anew.about(1); v++) due(what + ", lost", x.lost(v, 5, true), anew.lost(v, 5, true));
        for (int i = 0; i <= 12; i++) due(what + ", slot " + i, x.slot(i), anew.slot(i));
    }

    /** All tables have been asked for ahead of each change. */
    private static void alwaysAnew() {
        BreakLearner x = learnt(THREE, 2);
        asIfLearntAnew("studied", x, THREE, 2);
        x.keep(0);
        x.add(12, 1);
        asIfLearntAnew("added", x, THREE + "Wa-b", 2);
        x.turn(3, 0);
        asIfLearntAnew("turned", x, THREE + "Wab", 2);
        x.drop(0);
        asIfLearntAnew("dropped", x, "Wa-bWabcWab", 2);
        x.undo();
        asIfLearntAnew("undone", x, THREE + "Wab", 2);
        x.again(0);
        asIfLearntAnew("gone on", x, THREE, 2);
        x.rule(1, 0, 3);
        due("ruled", x.about(4), 0);
        x.rule(1, 0, 1);
        asIfLearntAnew("ruled back", x, THREE, 2);
        x.list();
        asIfLearntAnew("listed", x, THREE, 0);
        BreakLearner y = learnt("Wa-bWab", 1);
        asIfLearntAnew("the last one does harm", y, "Wa-bWab", 1);
        y.drop(1);
        asIfLearntAnew("the last one is dropped", y, "Wa-b", 1);
    }

    // ---- terms: the tree, judged, shares

    private static void emptyNode() {
        BreakLearner x = listed("Wa-a");
        due("no pattern, no node", x.about(6), 0);
        due("no base", x.base(0), NONE);
        x.study();
        due("the empty one and a", x.about(6), 2);
        due("the empty one and d, with gap 0 alone", learnt("Wd-da", 1).about(6), 2);
        due("its base", x.base(0), 0);
        x.turn(0, 0);
        due("no pattern again", x.about(6), 0);
        due("no base again", x.base(0), NONE);
    }

    /** Rule 1 keeps aa, ab .. for what breaks, as each letter alone does harm somewhere. */
    private static BreakLearner byRuleOne(String text) {
        BreakLearner x = listed(text);
        x.rule(1, 1, 1);
        x.study();
        return x;
    }

    private static void leastBase() {
        BreakLearner x = byRuleOne("Wa-bWadWdbWc-bWcd");
        due("a and c are in slots 1 and 3", x.base(0), 0);
        due("ab is in slot 2, between them: base 0", x.base(1), 0);
        due("cb would be in 2 or 3: base 2", x.base(3), 2);
        due("slot 4", x.slot(4), 32);
        BreakLearner y = byRuleOne("Wa-aWacWcaWb-aWbc");
        due("aa would be in 1 or 2: base 2", y.base(1), 2);
        due("ba would be in 1, 2 or 3: base 3", y.base(2), 3);
        fullStopsAlone();
        allNodesByHand();
    }

    /** The full stop has the greatest figure: a. and b. alone are kept. */
    private static void fullStopsAlone() {
        BreakLearner x = learnt("Waaa-aWbbb-b", 1);
        due("empty, a, b, a., b.", x.about(6), 5);
        due("a. is in slot 6", x.base(1), 0);
        due("b. would be there, too: slot 7", x.base(2), 1);
        due("slot 6", x.slot(6), 16);
        due("slot 7", x.slot(7), 26);
        due("1 more than 7", x.about(7), 8);
        x.undo();
        due("no node", x.about(7), 0);
        for (int i = 1; i <= 7; i++) due("free again", x.slot(i), NONE);
    }

    private static void allBeginnings() {
        BreakLearner x = learnt("Wabb-bbb", 1);
        due("abb alone is kept", x.about(4), 1);
        due("empty, a, ab, abb", x.about(6), 4);
        due("a", x.slot(1), 1);
        due("ab", x.slot(2), 12);
        due("abb", x.slot(3), 122);
        due("no node ahead of it", x.slot(0), NONE);
        due("of a full stop", learnt("Waa-aaa", 1).about(6), 4);
        due(".", learnt("Waa-aaa", 1).slot(6), 6);
    }

    /** Level 4 keeps aab and baa; of level 3 are aa, ab, ba; of level 2 b. and .b; of level 1 is a. */
    private static void allNodesByHand() {
        BreakLearner x = learnt("Wa-b-aWba-aa-ab", 4);
        due("right", x.about(2), 7);
        due("empty, a, b, ., aa, ab, ba, b., .b, aab, baa", x.about(6), 11);
        due("a, b and the full stop: 1, 2, 6", x.base(0), 0);
        due("aa, ab: 3 and 4", x.base(1), 2);
        due("ba, b.: 5 and 10, as 6, 3, 4 are taken", x.base(2), 4);
        due(".b: 7, as 2 .. 6 are taken", x.base(6), 5);
        due("aab: 8, as 2 .. 7 are taken", x.base(11), 6);
        due("baa: 9", x.base(21), 8);
        due("ab has none longer", x.base(12), NONE);
        int[] slots = {NONE, 1, 2, 11, 12, 21, 6, 62, 112, 211, 26, NONE};
        for (int i = 0; i < slots.length; i++) due("slot " + i, x.slot(i), slots[i]);
        due("1 more than the greatest slot", x.about(7), 11);
    }

    /** Six long words, by which more patterns are kept than by most: a row of slots must not end ahead of them. */
    private static BreakLearner greatTree() {
        BreakLearner x = new BreakLearner();
        int[] letters = {331115, 314442, 533241, 414253, 322244, 441352};
        int[] breaks = {20, 21, 21, 18, 26, 9};
        for (int i = 0; i < 6; i++) x.add(letters[i], breaks[i]);
        x.rule(1, 2, 3);
        x.rule(3, 1, 1);
        for (int i = 0; i < 4; i++) x.study();
        return x;
    }

    private static TreeSet<String> nodesOfGreatTree() {
        TreeSet<String> nodes = new TreeSet<>(Comparator.comparing(String::length).thenComparing(s -> s));
        for (int string = 1; string <= 666; string++) {
            if (!isString(string)) continue;
            String told = Integer.toString(string);
            BreakLearner x = greatTree();
            for (int gap = 0; gap <= told.length(); gap++) {
                if (x.pattern(string, gap) == 0) continue;
                for (int signs = 0; signs <= told.length(); signs++) nodes.add(told.substring(0, signs));
            }
        }
        return nodes;
    }

    private static void manySlots() {
        TreeSet<String> nodes = nodesOfGreatTree();
        TreeMap<Integer, String> slots = new TreeMap<>();
        due("nodes", greatTree().about(6), nodes.size());
        for (String node : nodes) {
            List<Integer> figures = new ArrayList<>();
            for (int f = 1; f <= 6; f++) if (nodes.contains(node + f)) figures.add(f);
            int base = 0;
            while (isTaken(slots, base, figures)) base++;
            for (int f : figures) slots.put(base + f, node + f);
            int string = node.isEmpty() ? 0 : Integer.parseInt(node);
            due("base(" + string + ")", greatTree().base(string), figures.isEmpty() ? NONE : base);
        }
        BreakLearner x = greatTree();
        for (int i = 0; i <= 100; i++) {
            due("slot " + i, x.slot(i), slots.containsKey(i) ? Integer.parseInt(slots.get(i)) : NONE);
        }
        due("1 more than the greatest slot", x.about(7), slots.lastKey() + 1);
        due("more than sixty slots", slots.lastKey() > 60 ? 1 : 0, 1);
    }

    private static boolean isTaken(TreeMap<Integer, String> slots, int base, List<Integer> figures) {
        for (int f : figures) if (slots.containsKey(base + f)) return true;
        return false;
    }

    private static void earnsLessOrMore() {
        BreakLearner x = learnt("Wa-bWa-cWa-dWae", 1);
        due("three are right, without a all four", x.earns(1), -1);
        due("no pattern is of it", x.earns(5), 0);
        due("all of them", thirtyPlaces().earns(1), 30);
        due("no words", new BreakLearner().earns(1), 0);
    }

    private static void judgedOne(BreakLearner x, int told, boolean so) {
        due("judge(1, " + told + ")", x.judge(1, told), so ? NONE : 0);
    }

    private static void judgedTurned() {
        BreakLearner x = listed("WabcdeaWab");
        for (int word = 0; word <= 9; word++) {
            for (int place = 0; place <= 9; place++) {
                judgedOne(x, 10000 + word * 1000 + place * 100, word == 0 && place <= 4 || word == 1 && place == 0);
            }
        }
        due("it has a break then: none is right", listed("Wab").judge(2, 1000060001L), 1);
        due("turned twice", listed("Wab").judge(3, 100001000060001L), NONE);
        due("learnt anew: a is a pattern", learnt("Wab", 1).judge(3, 100007100160001L), NONE);
        judgedOne(thirtyPlaces(), 15400, true);
        judgedOne(thirtyPlaces(), 16000, false);
        judgedOne(new BreakLearner(), 10000, false);
    }

    private static void judgedRuled() {
        for (int level = 0; level <= 9; level++) {
            BreakLearner x = new BreakLearner();
            for (int rule = 0; rule <= 9; rule++) {
                for (int h = 0; h <= 9; h++) {
                    boolean so = level >= 1 && level <= 4 && rule <= 2 && h >= 1;
                    judgedOne(x, 20000 + level * 1000 + rule * 100 + h, so);
                }
            }
        }
        due("h 9 keeps a: good is 30", thirtyPlaces().judge(2, 2120960030L), NONE);
        due("h 3 keeps none", learnt(THREE, 1).judge(2, 2120360003L), 1);
        due("and 2 are right", learnt(THREE, 1).judge(2, 2120360002L), NONE);
    }

    private static void judgedStudied() {
        due("from none: three", listed(FOUR_LEVELS).judge(3, 300003000030000L), NONE);
        due("from one: three", learnt(FOUR_LEVELS, 1).judge(3, 300003000030000L), NONE);
        due("from two: only two", learnt(FOUR_LEVELS, 2).judge(3, 300003000030000L), 2);
        due("from three: only one", learnt(FOUR_LEVELS, 3).judge(3, 300003000030000L), 1);
        due("from four: none", learnt(FOUR_LEVELS, 4).judge(3, 300003000030000L), 0);
        due("learnt then", learnt(FOUR_LEVELS, 3).judge(2, 3000040004L), NONE);
    }

    private static void judgedDigit() {
        for (int levels = 0; levels <= 4; levels++) {
            BreakLearner x = learnt(FOUR_LEVELS, levels);
            for (int d = 0; d <= 9; d++) {
                judgedOne(x, 40000 + d, d == levels);
                judgedOne(x, 40400 + d, d == levels);
                judgedOne(x, 41100 + d, d == levels);
                judgedOne(x, 40500 + d, false);
                judgedOne(x, 42000 + d, false);
            }
        }
        judgedOne(new BreakLearner(), 40000, false);
    }

    private static void judgedAllRight() {
        BreakLearner x = learnt(THREE, 1);
        judgedOne(x, 50000, true);
        judgedOne(x, 51000, true);
        judgedOne(x, 52000, false);
        judgedOne(x, 53000, false);
        due("one level more, and all are", x.judge(2, 3000052000L), NONE);
        for (int word = 0; word <= 9; word++) judgedOne(thirtyPlaces(), 50000 + word * 1000, word <= 5);
        judgedOne(new BreakLearner(), 50000, false);
    }

    private static void judgedSoMany() {
        BreakLearner x = thirtyPlaces();
        for (int many = 0; many <= 99; many++) judgedOne(x, 60000 + many, many <= 30);
        judgedOne(new BreakLearner(), 60000, true);
        judgedOne(new BreakLearner(), 60001, false);
    }

    private static void judgedPattern() {
        BreakLearner x = learnt(THREE, 2);
        for (int gap = 0; gap <= 9; gap++) {
            judgedOne(x, 70001 + gap * 1000, gap == 1);
            judgedOne(x, 70002 + gap * 1000, gap == 0);
            judgedOne(x, 70023 + gap * 1000, gap == 0);
        }
        int[] none = {0, 3, 6, 7, 10, 20, 66, 100, 200, 230, 203, 666, 999};
        for (int string : none) judgedOne(x, 70000 + string, false);
        BreakLearner three = learnt("Wabb-bbb", 1);
        judgedOne(three, 73122, true);
        judgedOne(three, 72122, false);
        judgedOne(three, 74122, false);
    }

    private static void theFirstThatCanNotBe() {
        BreakLearner x = learnt(THREE, 2);
        due("the first", x.judge(3, 999999999999999L), 0);
        due("the second", x.judge(3, 600009999999999L), 1);
        due("the third", x.judge(3, 600006000099999L), 2);
        due("the first of two", x.judge(2, 9999999999L), 0);
        due("the second of two", x.judge(2, 6000099999L), 1);
        due("the only one", x.judge(1, 99999), 0);
        due("noughts ahead are no doing", x.judge(3, 60000), 0);
    }

    private static void noneThatCanNotBe() {
        BreakLearner x = learnt(THREE, 2);
        due("one", x.judge(1, 60000), NONE);
        due("two", x.judge(2, 6000060000L), NONE);
        due("three", x.judge(3, 600006000060000L), NONE);
    }

    private static void shareIs(BreakLearner x, int word, int above, int below) {
        due("share of " + word + " above", x.share(word, true), above);
        due("share of " + word + " below", x.share(word, false), below);
    }

    private static void shares() {
        shareIs(learnt("Wa-b", 1), 0, 1, 1);
        shareIs(listed("Wa-b"), 0, 0, 1);
        for (int word = 0; word < 6; word++) shareIs(thirtyPlaces(), word, 5, 1);
        for (int word = 0; word < 3; word++) shareIs(learnt(THREE, 2), word, 2, 3);
        shareIs(learnt("Wa-bWa-bWa-bWa-bWa-bWcd", 1), 5, 0, 1);
        shareIs(learnt("Wa-bWa-bWa-bWa-bWa-bWcd", 1), 0, 1, 1);
    }

    // ---- terms: seen, lost, drawn, shelves

    private static void seenAtMost() {
        BreakLearner x = new BreakLearner();
        due("none at first", x.about(9), 0);
        for (int i = 1; i <= 6; i++) due("seen " + i, x.see(0, 0, 1), i);
        due("the seventh", x.see(0, 0, 1), FULL);
        due("six", x.about(9), 6);
    }

    private static void seenPlaces() {
        BreakLearner x = learnt("We-eWebWbe", 1);
        due("ee alone breaks", x.about(4), 1);
        x.see(0, 1, 1);
        due("ee ahead", x.which(0), 5);
        due("the first", x.which(1), 551);
        x.unsee();
        x.see(1, 1, 1);
        due("ee behind", x.which(0), 5);
        due("the first", x.which(1), 155);
    }

    private static void seenDigits() {
        BreakLearner x = learnt(FOUR_LEVELS, 4);
        int[] had = {80, 0, 0, 0, 45};
        for (int d = 0; d <= 4; d++) {
            x.see(0, d, 1);
            due("had " + d, x.which(0), had[d]);
            x.unsee();
            x.see(0, d, 0);
            due("had not " + d, x.which(0), 125 - had[d]);
            x.unsee();
        }
    }

    private static void whichAllOrOneOrNone() {
        BreakLearner x = learnt("We-eWebWbe", 1);
        due("all", x.which(0), 125);
        due("aaa is the least", x.which(1), 111);
        x.see(0, 1, 1);
        x.see(1, 1, 1);
        due("one", x.which(0), 1);
        due("eee, the greatest", x.which(1), 555);
        x.see(0, 0, 1);
        due("none", x.which(0), 0);
        due("no first one", x.which(1), NONE);
    }

    private static void sixSeenTogether() {
        BreakLearner x = learnt("We-eWebWbe", 1);
        for (int d = 2; d <= 4; d++) x.see(0, d, 0);
        for (int d = 2; d <= 3; d++) x.see(1, d, 0);
        due("five, which are so of all", x.which(0), 125);
        x.see(1, 1, 1);
        due("the sixth counts, too", x.which(0), 5);
    }

    private static void lostIs(BreakLearner x, int v, int tenths, int above, int below) {
        due("lost(" + v + ", " + tenths + ") above", x.lost(v, tenths, true), above);
        due("lost(" + v + ", " + tenths + ") below", x.lost(v, tenths, false), below);
    }

    private static void lostNoneOrAll() {
        BreakLearner x = thirtyPlaces();
        lostIs(x, 30, 0, 1, 1);
        lostIs(x, 30, 10, 0, 1);
        lostIs(x, 1, 10, 0, 1);
        lostIs(x, 0, 10, 1, 1);
        lostIs(x, 30, 1, 999999, 1000000);
        lostIs(x, 30, 9, 468559, 1000000);
        lostIs(x, 30, 5, 63, 64);
        lostIs(x, 0, 5, 1, 1);
    }

    private static void lostPlaces() {
        BreakLearner x = learnt(THREE, 2);
        lostIs(x, 5, 0, 0, 1);
        lostIs(x, 4, 0, 1, 1);
        lostIs(x, 2, 10, 1, 1);
        lostIs(x, 3, 10, 0, 1);
        lostIs(x, 30, 5, 0, 1);
        lostIs(new BreakLearner(), 0, 5, 1, 1);
        lostIs(new BreakLearner(), 1, 5, 0, 1);
        lostIs(new BreakLearner(), 30, 0, 0, 1);
    }

    private static final BigInteger WRAP = BigInteger.TWO.pow(64);

    private static BigInteger nextSeed(BigInteger seed) {
        BigInteger times = new BigInteger("6364136223846793005");
        return seed.multiply(times).add(new BigInteger("1442695040888963407")).mod(WRAP);
    }

    /** By a with gap 1 and b with gap 0, of level 1: how many places of the word have an a ahead or a b behind. */
    private static int digitsOf(BigInteger seed) {
        long bits = seed.shiftRight(33).longValueExact();
        int sum = 0;
        for (int i = 0; i < 3; i++) {
            long ahead = bits / (1L << 3 * i) % 5 + 1;
            long behind = bits / (1L << 3 * i + 3) % 5 + 1;
            if (ahead == 1 || behind == 2) sum++;
        }
        return sum;
    }

    private static void drawnWraps() {
        long[] seeds = {
            0, 1, -1, Long.MIN_VALUE, Long.MAX_VALUE, 1L << 33, -1442695040888963407L, 6364136223846793005L};
        for (long first : seeds) {
            BreakLearner x = learnt("Wa-b", 1);
            x.seed(first);
            BigInteger seed = BigInteger.valueOf(first).mod(WRAP);
            for (int i = 0; i < 60; i++) {
                seed = nextSeed(seed);
                due("drawn from " + first, x.drawn(1), digitsOf(seed));
                due("the seed", x.seed(seed.longValue()), seed.longValue());
            }
        }
    }

    private static void drawnTimes() {
        BreakLearner x = learnt("Wa-b", 1);
        BigInteger seed = BigInteger.ZERO;
        for (int m = 1; m <= 20; m++) {
            int sum = 0;
            for (int i = 0; i < m; i++) {
                seed = nextSeed(seed);
                sum += digitsOf(seed);
            }
            due("drawn(" + m + ")", x.drawn(m), sum);
        }
        due("the seed", x.seed(0), seed.longValue());
    }

    private static void drawnNone() {
        due("no pattern", new BreakLearner().drawn(20), 0);
        BreakLearner all = new BreakLearner();
        for (int letter = 1; letter <= 5; letter++) all.add(letter * 11, 1);
        all.study();
        due("all break: three places of each", all.drawn(20), 60);
    }

    private static void seedAtFirst() {
        due("the seed", new BreakLearner().seed(1), 0);
        BreakLearner x = learnt(THREE, 2);
        due("calls don't change it", x.seed(1), 0);
    }

    private static void shelves() {
        BreakLearner x = listed("Wab");
        due("shelf 0", x.keep(0), 1);
        x.add(345, 3);
        due("shelf 1", x.keep(1), 2);
        due("shelf -1", x.keep(-1), UNKNOWN);
        due("shelf 2", x.keep(2), UNKNOWN);
        due("they are apart", x.again(0), 1);
        due("they are apart", x.again(1), 2);
        due("again", x.again(0), 1);
        x.add(345, 1);
        due("kept over what was there", x.keep(1), 2);
        x.drop(0);
        x.again(1);
        due("the newer one", x.word(1, 1), 1);
    }

    /** All six words and all four rules, the least and the greatest. */
    private static void keptWhole() {
        BreakLearner x = listed("WaaWb-bbWccc-cWd-d-d-d-dWe-e-e-e-e-eWa-b");
        x.rule(1, 2, 9);
        x.rule(2, 1, 8);
        x.rule(3, 2, 7);
        x.rule(4, 1, 6);
        for (int i = 0; i < 4; i++) x.study();
        List<Long> kept = wordsAndRules(x);
        x.keep(1);
        for (int level = 1; level <= 4; level++) x.rule(level, 0, 1);
        for (int i = 0; i < 6; i++) x.drop(0);
        x.undo();
        x.add(345, 2);
        x.keep(0);
        due("words", x.again(1), 6);
        due("all as it was kept", wordsAndRules(x).equals(kept) ? 1 : 0, 1);
        due("places", x.about(1), 16);
        due("the last place", x.digit(4, 4), x.ask(555555, 4));
        due("the other shelf", x.again(0), 2);
        due("its last word", x.word(1, 0), 345);
        due("its rule", x.level(4, 0) * 10 + x.level(4, 1), 1);
    }

    private static void noDoingsWhenOneGoesOn() {
        BreakLearner x = full();
        due("doings", x.about(8), 14);
        x.again(1);
        due("no doings", x.about(8), 0);
        due("nothing to undo", x.undo(), LATE);
        due("keep leaves them", busy().about(8), 6);
    }

    /** What is kept is words, rules and levels: text, sights and seed go on. */
    private static void theOthersStay() {
        BreakLearner x = busy();
        x.again(0);
        due("text", x.about(10), 14);
        due("seen", x.about(9), 2);
        due("the seed", x.seed(0), 5);
        due("the other shelf", x.again(1), LATE);
        due("still kept", x.again(0), 3);
    }

    // ---- refusals

    private static void whatIsToldFirst() {
        due("write: BAD, FULL", full().write(256), BAD);
        due("word: UNKNOWN, BAD", full().word(6, 3), UNKNOWN);
        due("level: UNKNOWN, BAD", full().level(5, 3), UNKNOWN);
        due("add: BAD letters, FULL", full().add(1, 0), BAD);
        due("add: BAD breaks, FULL", full().add(11, 2), BAD);
        due("rule: UNKNOWN, BAD rule", full().rule(5, 3, 1), UNKNOWN);
        due("rule: UNKNOWN, BAD h", full().rule(0, 0, 10), UNKNOWN);
        due("ask: BAD, UNKNOWN", full().ask(1, 0), BAD);
        due("ask: BAD, UNKNOWN", full().ask(16, 5), BAD);
        due("see: BAD, FULL", full().see(2, 0, 0), BAD);
        due("see: BAD, FULL", full().see(0, 5, 0), BAD);
        due("see: BAD, FULL", full().see(0, 0, 2), BAD);
        due("again: UNKNOWN, LATE", new BreakLearner().again(2), UNKNOWN);
    }

    private static void constants() {
        due("UNKNOWN", BreakLearner.UNKNOWN, -1);
        due("BAD", BreakLearner.BAD, -2);
        due("LATE", BreakLearner.LATE, -3);
        due("FULL", BreakLearner.FULL, -4);
        due("NONE", BreakLearner.NONE, -9);
    }

    private static void fractions() {
        BreakLearner harm = learnt("Wa-bWabWab", 1);
        shareIs(harm, 0, -1, 3);
        shareIs(harm, 1, 1, 6);
        shareIs(listed("Wa-bWa-b"), 1, 0, 1);
        lostIs(thirtyPlaces(), 30, 5, 63, 64);
        lostIs(learnt("Wa-b", 1), 1, 2, 4, 5);
        lostIs(learnt("Wa-b", 1), 1, 10, 0, 1);
    }

    /** The second part of the terms, and questions of the others, on a busy object and on a full one. */
    private static void questionsChangeNothing() {
        List<Supplier<BreakLearner>> all = List.of(BreakLearner::new, BoundaryTest::busy, BoundaryTest::full);
        for (Supplier<BreakLearner> made : all) {
            changesNothing(made, "fault", BreakLearner::fault);
            for (int what = 0; what <= 10; what++) {
                int asks = what;
                changesNothing(made, "about", x -> x.about(asks));
            }
            changesNothing(made, "word", x -> x.word(0, 0) + x.word(0, 1) + x.word(0, 2));
            changesNothing(made, "digit", x -> x.digit(0, 0));
            changesNothing(made, "level", x -> x.level(1, 0) + x.level(1, 1) + x.level(1, 2));
            changesNothing(made, "pattern", x -> x.pattern(1, 1) + x.pattern(616, 0));
            changesNothing(made, "base", x -> x.base(0) + x.base(1) + x.base(666));
            changesNothing(made, "slot", x -> x.slot(0) + x.slot(1) + x.slot(MOST));
            changesNothing(made, "ask", x -> x.ask(55, 0) + x.ask(555555, 4));
            changesNothing(made, "earns", x -> x.earns(1) + x.earns(23));
            changesNothing(made, "judge: turned", x -> x.judge(3, 100001000010000L));
            changesNothing(made, "judge: ruled", x -> x.judge(3, 212092320924109L));
            changesNothing(made, "judge: studied", x -> x.judge(3, 300003000030000L));
            changesNothing(made, "share", x -> x.share(0, true) + x.share(1, false));
            changesNothing(made, "which", x -> x.which(0) + x.which(1));
            changesNothing(made, "lost", x -> x.lost(4, 5, true) + x.lost(0, 10, false));
        }
    }

    private static void drawnChangesTheSeedAlone() {
        ToLongFunction<BreakLearner> drawn = x -> {
            long seed = x.seed(0);
            x.seed(seed);
            x.drawn(20);
            return x.seed(seed);
        };
        changesNothing(BreakLearner::new, "drawn, and the seed put back", drawn);
        changesNothing(BoundaryTest::busy, "drawn, and the seed put back", drawn);
        changesNothing(BoundaryTest::full, "drawn, and the seed put back", drawn);
    }

    private static final int[] ARGUMENTS = {0, 1, 4, 5, 6, 11, 64, 123, 256, 1111111, -1, LEAST, MOST};

    private static List<ToLongFunction<BreakLearner>> callsWith(int a) {
        return List.of(
                BreakLearner::list, BreakLearner::study, BreakLearner::undo, x -> x.write(a), x -> x.about(a),
                x -> x.drop(a), x -> x.base(a), x -> x.slot(a), x -> x.earns(a), x -> x.share(a, true),
                x -> x.which(a), x -> x.drawn(a), x -> x.keep(a), x -> x.again(a));
    }

    private static List<ToLongFunction<BreakLearner>> callsWith(int a, int b) {
        return List.of(
                x -> x.word(a, b), x -> x.digit(a, b), x -> x.level(a, b), x -> x.pattern(a, b), x -> x.add(a, b),
                x -> x.turn(a, b), x -> x.rule(a, b, 1), x -> x.rule(1, a, b), x -> x.ask(a, b), x -> x.judge(a, b),
                x -> x.see(a, b, 0), x -> x.see(0, a, b), x -> x.lost(a, b, true));
    }

    /** A fraction less than 0 is no refusal, but changes nothing either. */
    private static int refusedOf(
            List<ToLongFunction<BreakLearner>> calls, Supplier<BreakLearner> made, List<Long> trace, String with) {
        int refused = 0;
        for (int i = 0; i < calls.size(); i++) {
            long answer = calls.get(i).applyAsLong(made.get());
            if (answer >= 0 || answer < FULL) continue;
            refused++;
            leaves(made, trace, "call " + i + " with " + with + ", refused by " + answer, calls.get(i));
        }
        return refused;
    }

    private static void refusedChangesNothing(Supplier<BreakLearner> made, int least) {
        List<Long> trace = traceOf(made.get());
        int refused = 0;
        for (int a : ARGUMENTS) {
            refused += refusedOf(callsWith(a), made, trace, "" + a);
            for (int b : ARGUMENTS) refused += refusedOf(callsWith(a, b), made, trace, a + ", " + b);
        }
        due("many are refused", refused >= least ? 1 : 0, 1);
    }

    private static void whatIsRefusedChangesNothing() {
        refusedChangesNothing(BreakLearner::new, 1500);
        refusedChangesNothing(BoundaryTest::busy, 1500);
        refusedChangesNothing(BoundaryTest::full, 1500);
        refusedChangesNothing(BoundaryTest::goneOn, 1500);
    }

    // ---- promises

    private static final int[] NO_INDEX = {-1, LEAST, MOST};

    private static void promise1() {
        BreakLearner x = new BreakLearner();
        for (int what = 0; what <= 10; what++) due("about(" + what + ")", x.about(what), 0);
        due("no fault", x.fault(), NONE);
        due("nothing to undo", x.undo(), LATE);
        for (int shelf = 0; shelf <= 1; shelf++) due("nothing kept", x.again(shelf), LATE);
        for (int i = 0; i <= 6; i++) due("all slots are free", x.slot(i), NONE);
    }

    private static void promise2() {
        due("the least letter", new BreakLearner().write(0), 1);
        due("the greatest letter", new BreakLearner().write(255), 1);
        for (int letter : new int[] {-1, 256, 256 + 'a', LEAST, MOST}) {
            refused(BoundaryTest::busy, "write(" + letter + ")", x -> x.write(letter), BAD);
        }
    }

    private static void promise2Full() {
        BreakLearner x = written(FIVE_LONG + "Wa-");
        due("the 64th", x.write('b'), 64);
        due("the 65th", x.write('b'), FULL);
        due("it did not come behind", x.list(), 6);
        for (int letter : new int[] {0, 'a', 'W', '-', 255}) {
            refused(BoundaryTest::full, "write(" + letter + ")", y -> y.write(letter), FULL);
        }
        x.wipe();
        due("there is room again", x.write('W'), 1);
    }

    private static void promise3() {
        due("an empty text", new BreakLearner().wipe(), 0);
        changesNothing(BreakLearner::new, "wipe", BreakLearner::wipe);
        BreakLearner x = full();
        due("a full one", x.wipe(), 64);
        due("empty", x.about(10), 0);
        due("empty again", x.wipe(), 0);
        due("words stay", x.about(0), 6);
        due("doings stay", x.about(8), 14);
    }

    private static void promise5() {
        BreakLearner x = full();
        due("words", x.list(), 6);
        due("no level is learnt", x.about(3), 0);
        due("no pattern", x.about(4), 0);
        due("rules stay", x.level(4, 0) * 10 + x.level(4, 1), 19);
        due("no doings", x.undo(), LATE);
        due("what was kept is gone", x.again(0), LATE);
        due("what was kept is gone", x.again(1), LATE);
        due("what was seen stays", x.about(9), 6);
        due("the text stays", x.about(10), 64);
        due("breaks as told", x.word(0, 1), 31);
        due("the seed stays", x.seed(0), -1);
    }

    private static void promise5Late() {
        refused(BoundaryTest::busy, "list", BreakLearner::list, LATE);
        for (String more : new String[] {"W", "-", "x"}) {
            Supplier<BreakLearner> made = () -> {
                BreakLearner x = learnt(THREE, 2);
                x.keep(0);
                x.write(more.charAt(0));
                return x;
            };
            refused(made, "list, " + more + " behind", BreakLearner::list, LATE);
        }
    }

    private static void promise6() {
        BreakLearner x = thirtyPlaces();
        due("words", x.about(0), 6);
        due("places", x.about(1), 30);
        due("right", x.about(2), 30);
        due("words that are wrong", x.about(5), 0);
        x.undo();
        due("none is right", x.about(2), 0);
        due("all six words are wrong", x.about(5), 63);
        due("no node lies in a slot", x.about(7), 0);
        BreakLearner full = full();
        due("levels", full.about(3), 4);
        due("doings", full.about(8), 14);
        due("seen", full.about(9), 6);
        due("letters", full.about(10), 64);
    }

    private static void promise6Bad() {
        for (int what : new int[] {-1, 11, LEAST, MOST}) {
            refused(BoundaryTest::busy, "about(" + what + ")", x -> x.about(what), BAD);
        }
    }

    private static void promise7() {
        due("no break", listed("Wabcdea").word(0, 1), 0);
        due("all breaks", thirtyPlaces().word(5, 1), 31);
        due("all broken", thirtyPlaces().word(5, 2), 31);
        due("none broken", listed("Wa-b").word(0, 2), 0);
        due("the least letters", listed("Waa").word(0, 0), 11);
        due("the greatest letters", listed("Weeeeee").word(0, 0), 555555);
    }

    private static void promise7Refused() {
        for (int word : new int[] {-1, 3, 6, LEAST, MOST}) {
            refused(BoundaryTest::busy, "word(" + word + ", 0)", x -> x.word(word, 0), UNKNOWN);
        }
        due("no word 6", full().word(6, 0), UNKNOWN);
        for (int what : new int[] {-1, 3, LEAST, MOST}) {
            refused(BoundaryTest::busy, "word(2, " + what + ")", x -> x.word(2, what), BAD);
        }
    }

    private static void promise8() {
        BreakLearner x = listed("WabcdeaWab");
        for (int place = 0; place <= 4; place++) due("place " + place, x.digit(0, place), 0);
        due("the only place", x.digit(1, 0), 0);
        for (int place : new int[] {-1, 5, 30, LEAST, MOST}) {
            refused(() -> listed("WabcdeaWab"), "digit(0, " + place + ")", y -> y.digit(0, place), UNKNOWN);
        }
        due("a place that the other word has", x.digit(1, 1), UNKNOWN);
        for (int word : new int[] {-1, 2, 6, LEAST, MOST}) {
            refused(() -> listed("WabcdeaWab"), "digit(" + word + ", 0)", y -> y.digit(word, 0), UNKNOWN);
        }
    }

    private static void promise9() {
        for (int level : new int[] {0, 5, -1, LEAST, MOST}) {
            refused(BoundaryTest::busy, "level(" + level + ", 0)", x -> x.level(level, 0), UNKNOWN);
        }
        for (int what : new int[] {-1, 3, LEAST, MOST}) {
            refused(BoundaryTest::busy, "level(4, " + what + ")", x -> x.level(4, what), BAD);
        }
        for (int level = 1; level <= 4; level++) due("none is of it", listed(THREE).level(level, 2), 0);
    }

    private static void promise10() {
        for (int string : new int[] {0, -1, 6, 66, 161, 7, 10, 1111, LEAST, MOST}) {
            refused(BoundaryTest::busy, "pattern(" + string + ", 0)", x -> x.pattern(string, 0), BAD);
        }
        for (int gap : new int[] {-1, 3, LEAST, MOST}) {
            refused(BoundaryTest::busy, "pattern(23, " + gap + ")", x -> x.pattern(23, gap), BAD);
        }
        due("none", new BreakLearner().pattern(555, 3), 0);
    }

    private static void promise11() {
        for (int letters : new int[] {0, 1, 5, 6, 10, 16, 61, 111110, 555556, 1111111, -11, LEAST, MOST}) {
            refused(BoundaryTest::busy, "add(" + letters + ", 0)", x -> x.add(letters, 0), BAD);
        }
        int letters = 1;
        for (int size = 2; size <= 6; size++) {
            letters = letters * 10 + 1;
            int told = letters;
            int over = 1 << (size - 1);
            due("all its places", new BreakLearner().add(told, over - 1), 1);
            refused(BoundaryTest::busy, "add(" + told + ", " + over + ")", x -> x.add(told, over), BAD);
        }
        for (int breaks : NO_INDEX) refused(BoundaryTest::busy, "breaks " + breaks, x -> x.add(11, breaks), BAD);
        due("no breaks", new BreakLearner().add(11, 0), 1);
    }

    private static void promise11Full() {
        BreakLearner x = new BreakLearner();
        for (int i = 1; i <= 6; i++) due("word " + i, x.add(11, 0), i);
        refused(BoundaryTest::full, "add(11, 0)", y -> y.add(11, 0), FULL);
        x.drop(0);
        due("there is room again", x.add(12, 1), 6);
        due("behind all", x.word(5, 0), 12);
    }

    private static void promise12() {
        for (int word : new int[] {-1, 3, 6, LEAST, MOST}) {
            refused(BoundaryTest::busy, "drop(" + word + ")", x -> x.drop(word), UNKNOWN);
        }
        refused(BoundaryTest::full, "drop(6)", x -> x.drop(6), UNKNOWN);
        refused(BreakLearner::new, "drop(0)", x -> x.drop(0), UNKNOWN);
        BreakLearner x = listed("Wab");
        due("the only one", x.drop(0), 12);
        due("none is left", x.drop(0), UNKNOWN);
    }

    private static void promise13() {
        for (int word : new int[] {-1, 3, 6, LEAST, MOST}) {
            refused(BoundaryTest::busy, "turn(" + word + ", 0)", x -> x.turn(word, 0), UNKNOWN);
        }
        for (int place : new int[] {-1, 1, 5, 32, LEAST, MOST}) {
            refused(BoundaryTest::busy, "turn(0, " + place + ")", x -> x.turn(0, place), UNKNOWN);
        }
        refused(BoundaryTest::full, "turn(0, 5)", x -> x.turn(0, 5), UNKNOWN);
        refused(BreakLearner::new, "turn(0, 0)", x -> x.turn(0, 0), UNKNOWN);
        BreakLearner x = listed("Wabcdea");
        for (int place = 0; place <= 4; place++) due("a break", x.turn(0, place), 1);
        due("all", x.word(0, 1), 31);
        for (int place = 0; place <= 4; place++) due("no break", x.turn(0, place), 0);
        due("none", x.word(0, 1), 0);
    }

    private static void promise14() {
        for (int level : new int[] {0, 5, -1, LEAST, MOST}) {
            refused(BoundaryTest::busy, "rule(" + level + ", 0, 1)", x -> x.rule(level, 0, 1), UNKNOWN);
        }
        for (int rule : new int[] {-1, 3, LEAST, MOST}) {
            refused(BoundaryTest::busy, "rule(1, " + rule + ", 1)", x -> x.rule(1, rule, 1), BAD);
        }
        for (int h : new int[] {0, 10, -1, LEAST, MOST}) {
            refused(BoundaryTest::busy, "rule(1, 0, " + h + ")", x -> x.rule(1, 0, h), BAD);
        }
        due("no words, none is right", new BreakLearner().rule(1, 0, 1), 0);
        due("all are right", thirtyPlaces().rule(4, 2, 9), 30);
    }

    private static void promise15() {
        BreakLearner x = listed(FOUR_LEVELS);
        for (int level = 1; level <= 4; level++) due("level " + level, x.study(), 2);
        due("there is no fifth", x.study(), FULL);
        refused(BoundaryTest::full, "study", BreakLearner::study, FULL);
        x.undo();
        due("three are learnt", x.about(3), 3);
        due("the fourth once more", x.study(), 2);
        due("no words, no pattern", new BreakLearner().study(), 0);
    }

    private static void promise16() {
        refused(BreakLearner::new, "undo", BreakLearner::undo, LATE);
        refused(BoundaryTest::goneOn, "undo", BreakLearner::undo, LATE);
        refused(() -> listed(THREE), "undo", BreakLearner::undo, LATE);
        BreakLearner x = new BreakLearner();
        x.study();
        due("the only one", x.undo(), 0);
        due("none", x.undo(), LATE);
    }

    private static void promise17() {
        int told = 0;
        for (int string = -700; string <= 7000; string++) {
            boolean is = string == 0 || Integer.toString(string).matches("[1-6]{1,3}");
            if (is) told++;
            due("base(" + string + ") is BAD", learnt(THREE, 2).base(string) == BAD ? 1 : 0, is ? 0 : 1);
        }
        due("1, and 6, and 36, and 216", told, 259);
        for (int string : new int[] {-1, 7, 10, 1111, LEAST, MOST}) {
            refused(BoundaryTest::busy, "base(" + string + ")", y -> y.base(string), BAD);
        }
    }

    private static void promise17None() {
        BreakLearner x = learnt(THREE, 2);
        due("a node, but none is longer", x.base(1), NONE);
        due("a node of two signs, none is longer", x.base(23), NONE);
        due("no node", x.base(3), NONE);
        due("no node, and no string", x.base(66), NONE);
        due("three signs", x.base(666), NONE);
        due("there is no node at all", new BreakLearner().base(0), NONE);
    }

    private static void promise18() {
        for (int i : NO_INDEX) {
            if (i < 0) refused(BoundaryTest::busy, "slot(" + i + ")", x -> x.slot(i), BAD);
        }
        BreakLearner x = learnt(THREE, 2);
        due("no sign has the figure 0", x.slot(0), NONE);
        due("the first", x.slot(1), 1);
        due("the last", x.slot(3), 23);
        for (int i : new int[] {4, 300, 301, 1000, MOST}) due("slot " + i, x.slot(i), NONE);
    }

    private static void promise19() {
        for (int letters : new int[] {0, 1, 5, 6, 10, 16, 61, 555556, 1111111, -12, LEAST, MOST}) {
            refused(BoundaryTest::busy, "ask(" + letters + ", 0)", x -> x.ask(letters, 0), BAD);
        }
        int letters = 1;
        for (int size = 2; size <= 6; size++) {
            letters = letters * 10 + 1;
            int told = letters;
            int behind = size - 1;
            due("the last place", thirtyPlaces().ask(told, behind - 1), 1);
            refused(BoundaryTest::busy, "ask(" + told + ", " + behind + ")", x -> x.ask(told, behind), UNKNOWN);
        }
        for (int i : NO_INDEX) refused(BoundaryTest::busy, "ask(11, " + i + ")", x -> x.ask(11, i), UNKNOWN);
    }

    private static void promise20() {
        for (int told = -700; told <= 7000; told++) {
            due("earns(" + told + ") is BAD", learnt(THREE, 2).earns(told) == BAD ? 1 : 0, isString(told) ? 0 : 1);
        }
        for (int string : new int[] {0, -1, 6, 66, 161, LEAST, MOST}) {
            refused(BoundaryTest::busy, "earns(" + string + ")", y -> y.earns(string), BAD);
        }
    }

    private static void promise21() {
        for (int n : new int[] {0, 4, -1, LEAST, MOST}) {
            refused(BoundaryTest::busy, "judge(" + n + ", 60000)", x -> x.judge(n, 60000), BAD);
            refused(BoundaryTest::busy, "judge(" + n + ", 0)", x -> x.judge(n, 0), BAD);
        }
    }

    private static void promise21Row() {
        for (int n = 1; n <= 3; n++) {
            int doings = n;
            long over = n == 1 ? 100000L : n == 2 ? 10000000000L : 1000000000000000L;
            due("as many figures as can be", busy().judge(n, over - 1), 0);
            due("nought", busy().judge(n, 0), 0);
            for (long row : new long[] {over, -1, -60000, Long.MIN_VALUE, Long.MAX_VALUE}) {
                refused(BoundaryTest::busy, "judge(" + n + ", " + row + ")", x -> x.judge(doings, row), BAD);
            }
        }
        due("more than an int", busy().judge(1, (1L << 32) + 60000), BAD);
    }

    private static void promise22() {
        for (int word : new int[] {-1, 3, 6, LEAST, MOST}) {
            refused(BoundaryTest::busy, "share(" + word + ", true)", x -> x.share(word, true), UNKNOWN);
            refused(BoundaryTest::busy, "share(" + word + ", false)", x -> x.share(word, false), UNKNOWN);
        }
        refused(BreakLearner::new, "share(0, true)", x -> x.share(0, true), UNKNOWN);
        due("no word 6", full().share(6, true), UNKNOWN);
    }

    private static void promise23() {
        for (int i : new int[] {-1, 2, LEAST, MOST}) {
            refused(BoundaryTest::busy, "see(" + i + ", 0, 0)", x -> x.see(i, 0, 0), BAD);
        }
        for (int d : new int[] {-1, 5, LEAST, MOST}) {
            refused(BoundaryTest::busy, "see(0, " + d + ", 0)", x -> x.see(0, d, 0), BAD);
        }
        for (int had : new int[] {-1, 2, LEAST, MOST}) {
            refused(BoundaryTest::busy, "see(0, 0, " + had + ")", x -> x.see(0, 0, had), BAD);
        }
        for (int i = 0; i <= 1; i++) {
            for (int d = 0; d <= 4; d++) {
                for (int had = 0; had <= 1; had++) due("seen", new BreakLearner().see(i, d, had), 1);
            }
        }
    }

    private static void promise23Full() {
        refused(BoundaryTest::full, "see(0, 0, 1)", x -> x.see(0, 0, 1), FULL);
        BreakLearner x = full();
        x.unsee();
        due("there is room again", x.see(0, 0, 1), 1);
    }

    private static void promise24() {
        due("nothing was", new BreakLearner().unsee(), 0);
        changesNothing(BreakLearner::new, "unsee", BreakLearner::unsee);
        BreakLearner x = full();
        due("six", x.unsee(), 6);
        due("nothing is", x.about(9), 0);
        due("nothing was", x.unsee(), 0);
        due("all words are so", x.which(0), 125);
    }

    private static void promise25() {
        for (int what : new int[] {-1, 2, LEAST, MOST}) {
            refused(BoundaryTest::busy, "which(" + what + ")", x -> x.which(what), BAD);
        }
        BreakLearner x = new BreakLearner();
        due("all", x.which(0), 125);
        x.see(0, 0, 0);
        due("none", x.which(0), 0);
        due("none", x.which(1), NONE);
    }

    private static void promise26() {
        for (int v : new int[] {-1, 31, LEAST, MOST}) {
            refused(BoundaryTest::busy, "lost(" + v + ", 0, true)", x -> x.lost(v, 0, true), BAD);
        }
        for (int tenths : new int[] {-1, 11, LEAST, MOST}) {
            refused(BoundaryTest::busy, "lost(0, " + tenths + ", false)", x -> x.lost(0, tenths, false), BAD);
        }
    }

    private static void promise27() {
        BreakLearner x = new BreakLearner();
        long was = 0;
        for (long v : new long[] {Long.MIN_VALUE, -1, 0, 1, Long.MAX_VALUE, 1L << 32}) {
            due("seed(" + v + ")", x.seed(v), was);
            was = v;
        }
    }

    private static void promise28() {
        for (int m : new int[] {0, 21, -1, LEAST, MOST}) {
            refused(BoundaryTest::busy, "drawn(" + m + ")", x -> x.drawn(m), BAD);
        }
    }

    private static void promise29() {
        for (int shelf : new int[] {-1, 2, LEAST, MOST}) {
            refused(BoundaryTest::busy, "keep(" + shelf + ")", x -> x.keep(shelf), UNKNOWN);
        }
        due("no words", new BreakLearner().keep(0), 0);
        due("six words", full().keep(1), 6);
    }

    private static void promise30() {
        for (int shelf : new int[] {-1, 2, LEAST, MOST}) {
            refused(BoundaryTest::busy, "again(" + shelf + ")", x -> x.again(shelf), UNKNOWN);
        }
    }

    private static void promise30Late() {
        refused(BoundaryTest::busy, "again(1)", x -> x.again(1), LATE);
        refused(BreakLearner::new, "again(0)", x -> x.again(0), LATE);
        refused(BreakLearner::new, "again(1)", x -> x.again(1), LATE);
        BreakLearner x = busy();
        x.wipe();
        x.list();
        due("gone with a list", x.again(0), LATE);
        BreakLearner none = new BreakLearner();
        none.rule(1, 2, 9);
        none.keep(0);
        none.rule(1, 0, 1);
        due("kept without a word", none.again(0), 0);
        due("its rules", none.level(1, 1), 9);
    }

    // ---- all sentences

    private static void words() {
        test("What it is", "An object is used for at most 512 calls", BoundaryTest::calls512);
        test("What it is", "LETTERS are a .. e.", BoundaryTest::lettersAToE);
        test("Terms", "A WORD has 2 .. 6 LETTERS and BREAKS", BoundaryTest::lettersOfAWord);
        test("Terms", "PLACE i (0 and on) is between its letters i and i and 1", BoundaryTest::placesOfAWord);
        test("Terms", "a PLACE has a BREAK, or none", BoundaryTest::breakOrNone);
        test("Terms", "WORDS are 0, 1, .. (6 at most)", BoundaryTest::wordsAtMost);
        test("Terms", "THE TEXT is letters (64 at most)", BoundaryTest::textAtMost);
        test("Terms", "A LIST is a TEXT: WORDS, none or more", BoundaryTest::listOfNone);
        test("Terms", "the first letter by which THE TEXT can be no LIST, whatever came behind it",
                BoundaryTest::firstFault);
        test("Terms", "its length set aside", BoundaryTest::lengthSetAside);
        test("Terms", "a W where the WORD ahead of it has one letter", BoundaryTest::wBehindOneLetter);
        test("Terms", "or ends with -", BoundaryTest::wBehindHyphen);
        test("Terms", "a - behind W", BoundaryTest::hyphenBehindW);
        test("Terms", "behind another one", BoundaryTest::hyphenBehindAnother);
        test("Terms", "behind a sixth letter", BoundaryTest::hyphenBehindSixthLetter);
        test("Terms", "a seventh letter", BoundaryTest::seventhLetter);
        test("Terms", "a seventh WORD", BoundaryTest::seventhWord);
        test("Terms", "its length, if it is only not at its end", BoundaryTest::onlyNotAtItsEnd);
        test("Terms", "NONE: none.", BoundaryTest::noFault);
        test("Terms", "At first there are no WORDS.", BoundaryTest::noWordsAtFirst);
    }

    private static void patterns() {
        test("Terms", "A STRING is 1 .. 3 signs", BoundaryTest::strings);
        test("Terms", "letters a .. e, one at least", BoundaryTest::oneLetterAtLeast);
        test("Terms", "and full stops, as its first sign, or as its last one, alone", BoundaryTest::fullStopsAtItsEnds);
        test("Terms", "a GAP (0 .. how many signs)", BoundaryTest::gaps);
        test("Terms", "GAP signs of it lie ahead of the PLACE, the others behind it",
                BoundaryTest::fromAllBehindToAllAhead);
        test("Terms", "they are the beginning, and the end, of a WORD", BoundaryTest::beginningAndEnd);
        test("Terms", "its STRING lies in the WORD (a full stop ahead and behind)", BoundaryTest::noPlaceOutside);
        test("Terms", "Each LEVEL (1 .. 4)", BoundaryTest::levels);
        test("Terms", "has a RULE (0, 1, 2) and a number h (1 .. 9)", BoundaryTest::rulesAndNumbers);
        test("Terms", "at first 0 and 1", BoundaryTest::rulesAtFirst);
        test("Terms", "RULE 0 keeps, if GOOD less BAD is h or more", BoundaryTest::ruleZero);
        test("Terms", "1, if BAD is 0, GOOD is h or more", BoundaryTest::ruleOne);
        test("Terms", "2, if GOOD is h times BAD, and h, or more", BoundaryTest::ruleTwo);
        test("Terms", "all: if GOOD is 1 or more", BoundaryTest::nothingGood);
        test("Terms", "the greatest LEVEL of PATTERNS that FIT it; 0: none", BoundaryTest::digitFromNoneToFour);
        test("Terms", "What the RULE keeps is a PATTERN of that LEVEL then (whatever it was)", BoundaryTest::kept);
        test("Terms", "All that is LEARNT is always as if it was LEARNT anew", BoundaryTest::alwaysAnew);
        test("Terms", "are a row (14 at most", BoundaryTest::fourteenDoings);
        test("Terms", "when it is full, the first one is forgotten", BoundaryTest::theFirstIsForgotten);
        test("Terms", "the last one can be undone", BoundaryTest::theLastFourteenAreUndone);
        test("Terms", "ADDED: a WORD more, behind all", BoundaryTest::addedBehindAll);
        test("Terms", "DROPPED: a WORD is gone, those behind it come up", BoundaryTest::droppedComeUp);
    }

    private static void others() {
        test("Terms", "In what follows nothing is changed.", BoundaryTest::questionsChangeNothing);
        test("Terms", "the empty one, too, if there are any", BoundaryTest::emptyNode);
        test("Terms", "NODES are all beginnings of STRINGS of PATTERNS", BoundaryTest::allBeginnings);
        test("Terms", "gets the least BASE b (0 and on)", BoundaryTest::leastBase);
        test("Terms", "for which SLOTS b and f, f the figure of each such sign, are all free", BoundaryTest::manySlots);
        test("Terms", "how many PLACES are RIGHT, less how many were", BoundaryTest::earnsLessOrMore);
        test("Terms", "1, a WORD, a PLACE, 00: TURNED", BoundaryTest::judgedTurned);
        test("Terms", "2, a LEVEL, a RULE, 0, h: RULED", BoundaryTest::judgedRuled);
        test("Terms", "3, 0, 0, 00: STUDIED", BoundaryTest::judgedStudied);
        test("Terms", "4, a WORD, a PLACE, 0, d: its DIGIT is d", BoundaryTest::judgedDigit);
        test("Terms", "5, a WORD, 0, 00: all its PLACES are RIGHT", BoundaryTest::judgedAllRight);
        test("Terms", "6, 0, 0, two figures: so many PLACES or more are RIGHT", BoundaryTest::judgedSoMany);
        test("Terms", "7, a GAP, and three figures a STRING, with noughts ahead", BoundaryTest::judgedPattern);
        test("Terms", "the place of the first that can not be (or is not so)", BoundaryTest::theFirstThatCanNotBe);
        test("Terms", "NONE: none.", BoundaryTest::noneThatCanNotBe);
        test("Terms", "by how many of all PLACES (of all WORDS) more", BoundaryTest::shares);
        test("Terms", "6 such at most, none at first", BoundaryTest::seenAtMost);
        test("Terms", "PLACE i (0, 1)", BoundaryTest::seenPlaces);
        test("Terms", "had DIGIT d (1), or had not (0)", BoundaryTest::seenDigits);
        test("Terms", "how many (125 there are); the first (three figures, the least number); NONE",
                BoundaryTest::whichAllOrOneOrNone);
        test("Terms", "by which all that is SEEN is so", BoundaryTest::sixSeenTogether);
        test("Terms", "each WORD is lost by x tenths (0 .. 10)", BoundaryTest::lostNoneOrAll);
        test("Terms", "that v PLACES (0 .. 30) or more (of all WORDS) are RIGHT", BoundaryTest::lostPlaces);
        test("Terms", "(64 bits, wrapping)", BoundaryTest::drawnWraps);
        test("Terms", "m times (1 .. 20)", BoundaryTest::drawnTimes);
        test("Terms", "DIGITS of that WORD of four letters, each time, together", BoundaryTest::drawnNone);
        test("Terms", "THE SEED, a long; 0 at first", BoundaryTest::seedAtFirst);
        test("Terms", "SHELVES 0 .. 1", BoundaryTest::shelves);
        test("Terms", "no DOINGS when one goes on", BoundaryTest::noDoingsWhenOneGoesOn);
        test("Terms", "keep WORDS, RULES, how many LEVELS are LEARNT", BoundaryTest::keptWhole);
        test("Terms", "keep WORDS, RULES, how many LEVELS are LEARNT", BoundaryTest::theOthersStay);
        test("Terms", "Nothing changes but THE SEED.", BoundaryTest::drawnChangesTheSeedAlone);
        test("REFUSALS", "Of several what is told first.", BoundaryTest::whatIsToldFirst);
        test("REFUSALS", "What is refused changes nothing.", BoundaryTest::whatIsRefusedChangesNothing);
        test("REFUSALS", "UNKNOWN -1 .. BAD -2, LATE -3, FULL -4 .. NONE is -9.", BoundaryTest::constants);
        test("REFUSALS", "less than 0, if they are), below, in least terms", BoundaryTest::fractions);
    }

    /** What is refused changes nothing: each refusal is tried with that. */
    private static void promises() {
        test("Promise 1", "No words.", BoundaryTest::promise1);
        test("Promise 2", "A letter (0 .. 255) .. BAD", BoundaryTest::promise2);
        test("Promise 2", "FULL: there are 64.", BoundaryTest::promise2Full);
        test("Promise 3", "THE TEXT is empty: how long it was.", BoundaryTest::promise3);
        test("Promise 4", "FAULT; NONE.", BoundaryTest::noFault);
        test("Promise 5", "THE TEXT is THE LIST, no LEVEL is LEARNT (..)", BoundaryTest::promise5);
        test("Promise 5", "LATE: a FAULT.", BoundaryTest::promise5Late);
        test("Promise 6", "WORDS (what = 0) .. (7; none: 0) ..", BoundaryTest::promise6);
        test("Promise 6", "BAD.", BoundaryTest::promise6Bad);
        test("Promise 7", "its BREAKS (1: bits), BROKEN PLACES (2: bits)", BoundaryTest::promise7);
        test("Promise 7", "UNKNOWN; BAD.", BoundaryTest::promise7Refused);
        test("Promise 8", "UNKNOWN: word, place.", BoundaryTest::promise8);
        test("Promise 9", "UNKNOWN: level (1 .. 4); BAD.", BoundaryTest::promise9);
        test("Promise 10", "0: it is none. BAD: string (a STRING), gap.", BoundaryTest::promise10);
        test("Promise 11", "BAD: letters, breaks", BoundaryTest::promise11);
        test("Promise 11", "FULL: there are 6.", BoundaryTest::promise11Full);
        test("Promise 12", "UNKNOWN.", BoundaryTest::promise12);
        test("Promise 13", "UNKNOWN: word, place.", BoundaryTest::promise13);
        test("Promise 14", "UNKNOWN: level (1 .. 4); BAD: rule (0 .. 2), h (1 .. 9).", BoundaryTest::promise14);
        test("Promise 15", "FULL: all four are LEARNT.", BoundaryTest::promise15);
        test("Promise 16", "LATE: there is none.", BoundaryTest::promise16);
        test("Promise 17", "BAD: string (0, or 1 .. 3 figures 1 .. 6).", BoundaryTest::promise17);
        test("Promise 17", "NONE: it is no NODE, or has none longer.", BoundaryTest::promise17None);
        test("Promise 18", "NONE: it is free. BAD: i less than 0.", BoundaryTest::promise18);
        test("Promise 19", "BAD: letters; UNKNOWN: i.", BoundaryTest::promise19);
        test("Promise 20", "BAD: string (a STRING).", BoundaryTest::promise20);
        test("Promise 21", "BAD: n", BoundaryTest::promise21);
        test("Promise 21", "row (0 or more, 5 n figures at most)", BoundaryTest::promise21Row);
        test("Promise 22", "UNKNOWN.", BoundaryTest::promise22);
        test("Promise 23", "BAD: i (0, 1), d (0 .. 4), had (0, 1)", BoundaryTest::promise23);
        test("Promise 23", "FULL: 6.", BoundaryTest::promise23Full);
        test("Promise 24", "Nothing is SEEN: how much there was.", BoundaryTest::promise24);
        test("Promise 25", "NONE. BAD.", BoundaryTest::promise25);
        test("Promise 26", "BAD: v, x.", BoundaryTest::promise26);
        test("Promise 27", "THE SEED is v: what it was.", BoundaryTest::promise27);
        test("Promise 28", "BAD: m.", BoundaryTest::promise28);
        test("Promise 29", "UNKNOWN.", BoundaryTest::promise29);
        test("Promise 30", "UNKNOWN", BoundaryTest::promise30);
        test("Promise 30", "LATE: none were kept.", BoundaryTest::promise30Late);
    }

    public static void main(String[] args) {
        words();
        patterns();
        others();
        promises();
        System.out.println(tests + " sentences, " + asked + " answers, " + wrong + " are not as due");
        if (wrong != 0) System.exit(1);
    }
}
