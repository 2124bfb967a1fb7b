/** Each promise of the document by its number, with answers worked out by hand. */
public final class PromiseTest {
    private static final int UNKNOWN = -1, BAD = -2, LATE = -3, FULL = -4, NONE = -9;
    private static final int LEAST = Integer.MIN_VALUE, MOST = Integer.MAX_VALUE;
    /**
     * Level 1 keeps a with gap 1 and b with gap 0 (good 2, bad 1 each), which breaks abc wrongly; level 2 keeps bc
     * with gap 0 (good 1), which forbids it. Learnt from no word 2 places are right, from one or both ab 3, from abc 2,
     * from an ab and abc (which keep b. with gap 0), and from all, 4.
     */
    private static final String THREE = "Wa-bWa-bWabc";

    private static int promise = 0;
    private static int asked = 0;
    private static int wrong = 0;

    private static void due(String call, long got, long want) {
        asked++;
        if (got == want) return;
        wrong++;
        System.out.println("promise " + promise + ", " + call + ": answered " + got + ", due is " + want);
    }

    private static BreakLearner written(String text) {
        BreakLearner x = new BreakLearner();
        for (int i = 0; i < text.length(); i++) x.write(text.charAt(i));
        return x;
    }

    private static BreakLearner listed(String text) {
        BreakLearner x = written(text);
        x.list();
        return x;
    }

    private static BreakLearner learnt(String text, int levels) {
        BreakLearner x = listed(text);
        for (int i = 0; i < levels; i++) x.study();
        return x;
    }

    private static void aNewObject() {
        BreakLearner x = new BreakLearner();
        for (int what = 0; what <= 10; what++) due("about(" + what + ")", x.about(what), 0);
        for (int level = 1; level <= 4; level++) {
            due("rule", x.level(level, 0), 0);
            due("h", x.level(level, 1), 1);
            due("patterns", x.level(level, 2), 0);
        }
        due("no fault", x.fault(), NONE);
        due("no word", x.word(0, 0), UNKNOWN);
        due("nothing to undo", x.undo(), LATE);
        due("nothing kept", x.again(0), LATE);
        due("nothing kept", x.again(1), LATE);
        due("no seed", x.seed(1), 0);
        due("two objects are apart", new BreakLearner().seed(2), 0);
    }

    private static void write() {
        BreakLearner x = new BreakLearner();
        due("least", x.write(0), 1);
        due("greatest", x.write(255), 2);
        due("too great", x.write(256), BAD);
        due("too small", x.write(-1), BAD);
        due("too small", x.write(LEAST), BAD);
        due("too great", x.write(MOST), BAD);
        due("refused changes nothing", x.about(10), 2);
        for (int i = 3; i <= 64; i++) due("letter " + i, x.write('a'), i);
        due("the 65th", x.write('a'), FULL);
        due("bad is told first", x.write(256), BAD);
        due("refused changes nothing", x.about(10), 64);
    }

    private static void wipe() {
        BreakLearner x = listed("Wa-b");
        due("four letters", x.wipe(), 4);
        due("none", x.wipe(), 0);
        due("none", x.about(10), 0);
        due("words stay", x.about(0), 1);
        due("written anew", x.write('z'), 1);
        due("the old text is gone", x.fault(), 0);
    }

    private static void faultIn(String text, int want) {
        due("fault of " + text, written(text).fault(), want);
    }

    private static void fault() {
        faultIn("", NONE);
        faultIn("Wab", NONE);
        faultIn("Wa-b-c-d-e-a", NONE);
        faultIn("WabWa-bWabcWbaWeeWdd", NONE);
        faultIn("W", 1);
        faultIn("Wa", 2);
        faultIn("Wa-", 3);
        faultIn("Wab-", 4);
        faultIn("WabW", 4);
        faultIn("a", 0);
        faultIn("-", 0);
        faultIn("w", 0);
        faultIn("WW", 1);
        faultIn("WaWab", 2);
        faultIn("Wab-Wab", 4);
        faultIn("W-a", 1);
        faultIn("Wa--b", 3);
        faultIn("Wabcdea", NONE);
        faultIn("Wabcdea-", 7);
        faultIn("Wabcdeaa", 7);
        faultIn("Wabcdea-W", 7);
        faultIn("Wabcde-a", NONE);
        faultIn("Wabf", 3);
        faultIn("Wab`", 3);
        faultIn("WaA", 2);
        faultIn("Wab" + (char) 0, 3);
        faultIn("Wab ", 3);
        faultIn("WabWabWabWabWabWabW", 18);
        faultIn("WabWabWabWabWabWab-W", 19);
        // A list may be longer than a text can be: that is no fault.
        String five = "Wa-a-a-a-a-aWa-a-a-a-a-aWa-a-a-a-a-aWa-a-a-a-a-aWa-a-a-a-a-a";
        faultIn(five, NONE);
        faultIn(five + "Wa-a", NONE);
        faultIn(five + "Wab-", 64);
    }

    private static void list() {
        BreakLearner x = listed(THREE);
        due("three words", x.about(0), 3);
        due("letters", x.word(2, 0), 123);
        due("breaks", x.word(0, 1), 1);
        x.rule(2, 1, 3);
        x.study();
        x.keep(0);
        x.keep(1);
        x.see(0, 1, 1);
        x.seed(77);
        due("the text is still there", x.list(), 3);
        due("no level is learnt", x.about(3), 0);
        due("no pattern", x.about(4), 0);
        due("no doings", x.about(8), 0);
        due("nothing to undo", x.undo(), LATE);
        due("what was kept is gone", x.again(0), LATE);
        due("what was kept is gone", x.again(1), LATE);
        due("rules stay", x.level(2, 0), 1);
        due("h stays", x.level(2, 1), 3);
        due("what was seen stays", x.about(9), 1);
        due("the seed stays", x.seed(78), 77);
        x.study();
        x.keep(1);
        x.write('-');
        due("a fault", x.list(), LATE);
        due("refused changes nothing", x.about(0), 3);
        due("refused changes nothing", x.about(3), 1);
        due("refused changes nothing", x.about(8), 1);
        due("still kept", x.again(1), 3);
        x.wipe();
        due("no words", x.list(), 0);
        due("no words", x.about(0), 0);
        due("six words", listed("WabWabWabWabWabWab").about(0), 6);
        BreakLearner y = listed("Wa-b-cde-aWedc-b");
        due("all letters", y.word(0, 0), 123451);
        due("breaks from the first place on", y.word(0, 1), 19);
        due("the second word", y.word(1, 0), 5432);
        due("its breaks", y.word(1, 1), 4);
    }

    private static void about() {
        BreakLearner x = learnt(THREE, 1);
        due("words", x.about(0), 3);
        due("places", x.about(1), 4);
        due("right", x.about(2), 3);
        due("levels", x.about(3), 1);
        due("patterns", x.about(4), 2);
        due("words with a wrong place", x.about(5), 4);
        due("nodes", x.about(6), 3);
        due("slots", x.about(7), 3);
        due("doings", x.about(8), 1);
        due("seen", x.about(9), 0);
        due("text", x.about(10), 12);
        x.study();
        x.see(0, 0, 0);
        due("right", x.about(2), 4);
        due("patterns of all levels", x.about(4), 3);
        due("no wrong word", x.about(5), 0);
        due("nodes", x.about(6), 4);
        due("slots", x.about(7), 4);
        due("seen", x.about(9), 1);
        for (int what : new int[] {-1, 11, LEAST, MOST}) due("about(" + what + ")", x.about(what), BAD);
        due("nothing learnt, breaks are wrong", listed(THREE).about(5), 3);
        due("nothing learnt, two are right", listed(THREE).about(2), 2);
    }

    private static void word() {
        BreakLearner x = learnt(THREE, 1);
        due("letters", x.word(2, 0), 123);
        due("breaks", x.word(2, 1), 0);
        due("broken", x.word(2, 2), 1);
        due("broken", x.word(0, 2), 1);
        x.study();
        due("forbidden", x.word(2, 2), 0);
        due("no such word", x.word(3, 0), UNKNOWN);
        due("no such word", x.word(-1, 0), UNKNOWN);
        due("unknown is told first", x.word(MOST, 9), UNKNOWN);
        due("bad", x.word(2, 3), BAD);
        due("bad", x.word(2, -1), BAD);
    }

    private static void digit() {
        BreakLearner x = learnt(THREE, 1);
        due("by level 1", x.digit(2, 0), 1);
        due("none", x.digit(2, 1), 0);
        x.study();
        due("the greatest", x.digit(2, 0), 2);
        due("no level 2 there", x.digit(0, 0), 1);
        due("no such place", x.digit(0, 1), UNKNOWN);
        due("no such place", x.digit(2, 2), UNKNOWN);
        due("no such place", x.digit(2, -1), UNKNOWN);
        due("no such place", x.digit(2, MOST), UNKNOWN);
        due("no such word", x.digit(3, 0), UNKNOWN);
        due("no such word", x.digit(-1, 0), UNKNOWN);
        due("no such word", x.digit(LEAST, LEAST), UNKNOWN);
    }

    private static void level() {
        BreakLearner x = learnt(THREE, 2);
        due("patterns of 1", x.level(1, 2), 2);
        due("patterns of 2", x.level(2, 2), 1);
        due("patterns of 3", x.level(3, 2), 0);
        x.rule(4, 2, 9);
        due("rule", x.level(4, 0), 2);
        due("h", x.level(4, 1), 9);
        due("the others stay", x.level(3, 0), 0);
        due("the others stay", x.level(3, 1), 1);
        for (int level : new int[] {0, 5, -1, LEAST, MOST}) due("level " + level, x.level(level, 0), UNKNOWN);
        due("unknown is told first", x.level(0, 7), UNKNOWN);
        due("bad", x.level(1, 3), BAD);
        due("bad", x.level(1, -1), BAD);
    }

    private static void pattern() {
        BreakLearner x = learnt(THREE, 2);
        due("a, 1", x.pattern(1, 1), 1);
        due("a, 0", x.pattern(1, 0), 0);
        due("b, 0", x.pattern(2, 0), 1);
        due("bc, 0", x.pattern(23, 0), 2);
        due("bc, 1", x.pattern(23, 1), 0);
        due("bc, 2", x.pattern(23, 2), 0);
        x.rule(1, 1, 1);
        due("b., 0", x.pattern(26, 0), 1);
        due("no more", x.pattern(23, 0), 0);
        due("no more", x.pattern(1, 1), 0);
        for (int string : new int[] {0, -1, 6, 66, 7, 10, 166, 661, 161, 666, 1111, 106, LEAST, MOST}) {
            due("string " + string, x.pattern(string, 0), BAD);
        }
        for (int string : new int[] {1, 5, 61, 16, 55, 611, 116, 616, 555}) due("string " + string, x.pattern(string, 0), 0);
        due("gap 2 of one sign", x.pattern(1, 2), BAD);
        due("gap 3 of two signs", x.pattern(11, 3), BAD);
        due("gap 4 of three signs", x.pattern(111, 4), BAD);
        due("gap 3 of three signs", x.pattern(111, 3), 0);
        due("gap -1", x.pattern(111, -1), BAD);
        due("gap", x.pattern(111, MOST), BAD);
    }

    private static void add() {
        BreakLearner x = new BreakLearner();
        due("shortest", x.add(11, 1), 1);
        due("its letters", x.word(0, 0), 11);
        due("its breaks", x.word(0, 1), 1);
        due("longest", x.add(555555, 31), 2);
        due("all breaks", x.word(1, 1), 31);
        due("a doing", x.about(8), 2);
        for (int letters : new int[] {0, 1, 5, 10, 16, 61, 101, 1234567, 111110, 555556, -11, LEAST, MOST}) {
            due("letters " + letters, x.add(letters, 0), BAD);
        }
        due("breaks of two letters", x.add(12, 2), BAD);
        due("breaks of six letters", x.add(123451, 32), BAD);
        due("breaks less than 0", x.add(12, -1), BAD);
        due("breaks", x.add(12, LEAST), BAD);
        due("refused changes nothing", x.about(8), 2);
        for (int i = 3; i <= 6; i++) due("word " + i, x.add(12, 0), i);
        due("full", x.add(12, 0), FULL);
        due("bad is told first", x.add(1, 0), BAD);
        due("bad is told first", x.add(12, 2), BAD);
        due("refused changes nothing", x.about(8), 6);
        BreakLearner y = learnt("Wa-b", 1);
        due("right", y.about(2), 1);
        y.add(12, 0);
        due("learnt anew: good 1, bad 1 keeps none", y.about(4), 0);
    }

    private static void drop() {
        BreakLearner x = learnt("WabWa-cWbcd", 1);
        due("the middle one", x.drop(1), 13);
        due("two are left", x.about(0), 2);
        due("those behind come up", x.word(1, 0), 234);
        due("learnt anew", x.about(4), 0);
        due("a doing", x.about(8), 2);
        due("no such word", x.drop(2), UNKNOWN);
        due("no such word", x.drop(-1), UNKNOWN);
        due("no such word", x.drop(MOST), UNKNOWN);
        due("refused changes nothing", x.about(8), 2);
        due("the last one", x.drop(1), 234);
        due("the first one", x.drop(0), 12);
        due("none is left", x.drop(0), UNKNOWN);
        due("none is left", x.about(1), 0);
    }

    private static void turn() {
        BreakLearner x = learnt("Wabc", 1);
        due("a break", x.turn(0, 1), 1);
        due("breaks", x.word(0, 1), 2);
        due("learnt anew: b, 1 and c, 0", x.about(4), 2);
        due("a break", x.turn(0, 0), 1);
        due("breaks", x.word(0, 1), 3);
        due("no break", x.turn(0, 1), 0);
        due("breaks", x.word(0, 1), 1);
        due("doings", x.about(8), 4);
        due("no such place", x.turn(0, 2), UNKNOWN);
        due("no such place", x.turn(0, -1), UNKNOWN);
        due("no such place", x.turn(0, 32), UNKNOWN);
        due("no such word", x.turn(1, 0), UNKNOWN);
        due("no such word", x.turn(-1, 0), UNKNOWN);
        due("refused changes nothing", x.about(8), 4);
    }

    private static void rule() {
        BreakLearner x = learnt(THREE, 1);
        due("1: bad is 0", x.rule(1, 1, 1), 4);
        due("1: good is h", x.rule(1, 1, 2), 4);
        due("1: good is less", x.rule(1, 1, 3), 2);
        due("0: good less bad is 1", x.rule(1, 0, 1), 3);
        due("0: b. has good 2", x.rule(1, 0, 2), 4);
        due("0: good less bad is less", x.rule(1, 0, 3), 2);
        due("2: good is 1 times bad and 1", x.rule(1, 2, 1), 3);
        due("2: good is less than 2 times bad and 2; b. has good 2, bad 0", x.rule(1, 2, 2), 4);
        due("2: good is less than 3", x.rule(1, 2, 3), 2);
        due("a level that is not learnt", x.rule(2, 1, 1), 2);
        due("doings", x.about(8), 11);
        due("the same again is a doing, too", x.rule(2, 1, 1), 2);
        due("doings", x.about(8), 12);
        for (int level : new int[] {0, 5, -1, LEAST, MOST}) due("level " + level, x.rule(level, 0, 1), UNKNOWN);
        due("unknown is told first", x.rule(0, 3, 0), UNKNOWN);
        for (int rule : new int[] {-1, 3, LEAST, MOST}) due("rule " + rule, x.rule(1, rule, 1), BAD);
        for (int h : new int[] {0, 10, -1, LEAST, MOST}) due("h " + h, x.rule(1, 0, h), BAD);
        due("refused changes nothing", x.about(8), 12);
        due("refused changes nothing", x.level(1, 0), 2);
        due("the greatest h", x.rule(4, 2, 9), 2);
        ruleTwo();
    }

    /** RULE 2 asks for h times BAD, and h, as one sum. */
    private static void ruleTwo() {
        BreakLearner x = learnt("Wa-bWab", 1);
        due("0: good is bad", x.about(4), 0);
        x.rule(1, 2, 1);
        due("2: good is bad", x.about(4), 0);
        BreakLearner y = learnt("Wa-bWa-bWa-bWacWad", 1);
        y.rule(1, 2, 1);
        due("a, 1: good 3, bad 2, 1 times 2 and 1", y.pattern(1, 1), 1);
        y.rule(1, 2, 2);
        y.drop(4);
        due("a, 1: good 3, bad 1, less than 2 times 1 and 2", y.pattern(1, 1), 0);
        y.add(12, 1);
        due("a, 1: good 4, bad 1, 2 times 1 and 2", y.pattern(1, 1), 1);
        due("b, 0: good 4, bad 0", y.pattern(2, 0), 1);
        y.rule(1, 2, 4);
        due("b, 0: good 4, bad 0, 4 times 0 and 4", y.pattern(2, 0), 1);
        due("a, 1: good 4, bad 1, 4 times bad, without the 4 more", y.pattern(1, 1), 0);
        y.rule(1, 2, 5);
        due("b, 0: good 4, bad 0, less than 5", y.pattern(2, 0), 0);
        forbidsByRuleTwo();
    }

    /** Level 1 breaks a from what is behind it: right three times, wrong twice; level 2 has GOOD and BAD the other way. */
    private static void forbidsByRuleTwo() {
        BreakLearner x = learnt("Wa-bWa-bWa-cWacWac", 1);
        due("a, 1 and b, 0", x.about(4), 2);
        x.study();
        due("0: c, 0 has good 2, bad 1", x.pattern(3, 0), 2);
        x.rule(2, 2, 1);
        due("2: good is 1 times bad and 1", x.pattern(3, 0), 2);
        x.rule(2, 2, 2);
        due("2: good is less than 2 times bad and 2", x.pattern(3, 0), 0);
        due("none is", x.level(2, 2), 0);
    }

    private static void study() {
        BreakLearner x = listed(THREE);
        due("level 1", x.study(), 2);
        due("level 2", x.study(), 1);
        due("level 3", x.study(), 0);
        due("level 4", x.study(), 0);
        due("all four", x.study(), FULL);
        due("levels", x.about(3), 4);
        due("doings", x.about(8), 4);
        shorterAhead();
        aboveAnother();
        byRuleTwo();
        due("no words", new BreakLearner().study(), 0);
    }

    /** Each sign does as much harm as good, and so do .a and b. alone; what ab breaks is no good of .ab then. */
    private static void shorterAhead() {
        BreakLearner x = learnt("Wa-bWbbWaa", 1);
        due("ab alone", x.about(4), 1);
        due("by two signs", x.pattern(12, 1), 1);
        due("not by one", x.pattern(1, 1), 0);
        due("nor by three", x.pattern(612, 2), 0);
        due("right", x.about(2), 3);
    }

    /** A pattern that a later level keeps, too, is of that level then. */
    private static void aboveAnother() {
        BreakLearner x = listed("Wa-aaaWa-a-b");
        due("a, 1 (good 3, bad 2) and b, 0", x.study(), 2);
        due("level", x.pattern(2, 0), 1);
        due("all are broken", x.about(2), 3);
        due("aa, 2 (good 2, bad 1) and a., 0", x.study(), 2);
        due("what aa forbids wrongly", x.digit(1, 1), 2);
        due("right", x.about(2), 4);
        due("b, 0 again (good 1, bad 0)", x.study(), 1);
        due("it is of level 3 then", x.pattern(2, 0), 3);
        due("and no more of level 1", x.level(1, 2), 1);
        due("a, 1 stays", x.pattern(1, 1), 1);
        due("digit", x.digit(1, 1), 3);
        due("patterns", x.about(4), 4);
        due("all are right", x.about(2), 5);
    }

    /** b with gap 1 has good 1, bad 0; e with gap 0 has good 1, bad 1, and would need 2. */
    private static void byRuleTwo() {
        BreakLearner x = new BreakLearner();
        x.rule(1, 2, 1);
        x.add(255, 1);
        due("b, 1 alone", x.study(), 1);
        due("b, 1", x.pattern(2, 1), 1);
        due("e, 0", x.pattern(5, 0), 0);
        due("right", x.about(2), 2);
    }

    private static void undo() {
        BreakLearner x = listed(THREE);
        x.study();
        x.add(44, 1);
        x.drop(1);
        x.turn(1, 1);
        x.rule(1, 1, 2);
        due("ruled", x.undo(), 4);
        due("rule", x.level(1, 0), 0);
        due("h", x.level(1, 1), 1);
        due("turned", x.undo(), 3);
        due("breaks", x.word(1, 1), 0);
        due("dropped", x.undo(), 2);
        due("back in its place", x.word(1, 0), 12);
        due("with its breaks", x.word(1, 1), 1);
        due("those behind", x.word(2, 0), 123);
        due("words", x.about(0), 4);
        due("added", x.undo(), 1);
        due("words", x.about(0), 3);
        due("learnt", x.about(4), 2);
        due("studied", x.undo(), 0);
        due("levels", x.about(3), 0);
        due("patterns", x.about(4), 0);
        due("none", x.undo(), LATE);
        BreakLearner y = listed("Wab");
        y.rule(1, 0, 5);
        for (int h = 2; h <= 9; h++) y.rule(1, 1, h);
        for (int h = 1; h <= 6; h++) y.rule(2, 0, h);
        due("fourteen", y.about(8), 14);
        for (int left = 13; left >= 0; left--) due("undone", y.undo(), left);
        due("the first one was forgotten", y.undo(), LATE);
        due("what it did stays", y.level(1, 1), 5);
        due("the one behind it is undone", y.level(1, 0), 0);
        due("all behind it is undone", y.level(2, 1), 1);
    }

    private static void base() {
        BreakLearner x = learnt(THREE, 2);
        due("the empty one", x.base(0), 0);
        due("b", x.base(2), 0);
        due("a has none longer", x.base(1), NONE);
        due("no node", x.base(3), NONE);
        due("no node", x.base(66), NONE);
        due("three signs", x.base(123), NONE);
        due("three signs", x.base(666), NONE);
        for (int string : new int[] {-1, 7, 10, 17, 70, 101, 667, 1111, LEAST, MOST}) {
            due("base(" + string + ")", x.base(string), BAD);
        }
        due("no node at all", new BreakLearner().base(0), NONE);
        BreakLearner y = learntByRule1("Wa-aWacWcaWb-aWbc");
        due("aa: slots 1 and 2 are taken", y.base(1), 2);
        due("ba: slot 3 is taken, too", y.base(2), 3);
        due("aa", y.slot(3), 11);
        due("ba", y.slot(4), 21);
        due("slots", y.about(7), 5);
        BreakLearner z = learntByRule1("Wa-bWadWdbWc-bWcd");
        due("ab: between a and c", z.base(1), 0);
        due("cb: slots 2 and 3 are taken", z.base(3), 2);
        due("ab", z.slot(2), 12);
        due("cb", z.slot(4), 32);
        due("nodes", z.about(6), 5);
    }

    /** Each letter of the two words that break does harm elsewhere, so that a pattern of two letters is kept for each. */
    private static BreakLearner learntByRule1(String text) {
        BreakLearner x = listed(text);
        x.rule(1, 1, 1);
        x.study();
        return x;
    }

    private static void slot() {
        BreakLearner x = learnt(THREE, 2);
        due("0", x.slot(0), NONE);
        due("1", x.slot(1), 1);
        due("2", x.slot(2), 2);
        due("3", x.slot(3), 23);
        due("4", x.slot(4), NONE);
        due("far", x.slot(MOST), NONE);
        due("less than 0", x.slot(-1), BAD);
        due("less than 0", x.slot(LEAST), BAD);
        due("no node at all", new BreakLearner().slot(1), NONE);
    }

    private static void ask() {
        BreakLearner x = learnt(THREE, 2);
        due("ab", x.ask(12, 0), 1);
        due("abc", x.ask(123, 0), 2);
        due("abc", x.ask(123, 1), 0);
        due("cab", x.ask(312, 1), 1);
        due("cabced, behind b", x.ask(312354, 1), 2);
        due("eeeeeb, the last place", x.ask(555552, 4), 1);
        for (int letters : new int[] {0, 1, 6, 10, 16, 61, 106, 1111111, -12, LEAST, MOST}) {
            due("letters " + letters, x.ask(letters, 0), BAD);
        }
        due("bad is told first", x.ask(1, 9), BAD);
        for (int i : new int[] {-1, 1, LEAST, MOST}) due("place " + i, x.ask(12, i), UNKNOWN);
        due("place 5 of six letters", x.ask(555552, 5), UNKNOWN);
        due("nothing changes", x.about(0), 3);
        BreakLearner y = learnt("Wa-bWcab", 1);
        due("at the beginning alone", y.pattern(61, 2), 1);
        due("at the beginning", y.ask(13, 0), 1);
        due("not at the beginning", y.ask(313, 1), 0);
    }

    private static void earns() {
        BreakLearner x = learnt(THREE, 2);
        due("bc mends one", x.earns(23), 1);
        due("a, as b breaks too", x.earns(1), 0);
        due("no pattern", x.earns(3), 0);
        due("no pattern", x.earns(616), 0);
        BreakLearner y = learnt(THREE, 1);
        due("one of the two is enough", y.earns(2), 0);
        y.rule(1, 1, 1);
        due("b. breaks two", y.earns(26), 2);
        BreakLearner z = learnt("Wa-a", 1);
        due("a, 0 and a, 1 together", z.earns(1), 1);
        due("nothing changes", z.about(4), 2);
        for (int string : new int[] {0, -1, 6, 66, 7, 10, 161, 666, 1111, LEAST, MOST}) {
            due("string " + string, x.earns(string), BAD);
        }
        BreakLearner less = learnt("Wa-bWa-cWa-dWae", 1);
        due("a breaks all four, three of them are right", less.about(2), 3);
        due("without a three are right by b, c, d, and ae is, too", less.earns(1), -1);
    }

    private static void judge() {
        BreakLearner x = learnt(THREE, 2);
        due("turned", x.judge(1, 12100), NONE);
        due("no such place", x.judge(1, 12200), 0);
        due("no such word", x.judge(1, 13000), 0);
        due("not so told", x.judge(1, 12101), 0);
        due("not so told", x.judge(1, 12110), 0);
        due("ruled", x.judge(1, 24209), NONE);
        due("no such level", x.judge(1, 20001), 0);
        due("no such level", x.judge(1, 25001), 0);
        due("no such rule", x.judge(1, 21301), 0);
        due("no such h", x.judge(1, 21000), 0);
        due("not so told", x.judge(1, 21011), 0);
        due("studied", x.judge(2, 3000030000L), NONE);
        due("only four", x.judge(3, 300003000030000L), 2);
        due("not so told", x.judge(1, 30001), 0);
        due("not so told", x.judge(1, 31000), 0);
        due("digit", x.judge(1, 42002), NONE);
        due("another digit", x.judge(1, 42001), 0);
        due("digit 0", x.judge(1, 42100), NONE);
        due("no such place", x.judge(1, 42200), 0);
        due("not so told", x.judge(1, 42012), 0);
        due("all right", x.judge(1, 52000), NONE);
        due("no such word", x.judge(1, 53000), 0);
        due("not so told", x.judge(1, 52100), 0);
        due("not so told", x.judge(1, 52001), 0);
        due("right", x.judge(1, 60004), NONE);
        due("so many are not", x.judge(1, 60005), 0);
        due("so many are not", x.judge(1, 60099), 0);
        due("not so told", x.judge(1, 60104), 0);
        due("not so told", x.judge(1, 61004), 0);
        due("pattern", x.judge(1, 71001), NONE);
        due("pattern", x.judge(1, 70023), NONE);
        due("no pattern", x.judge(1, 71023), 0);
        due("no gap", x.judge(1, 79001), 0);
        due("no string", x.judge(1, 70000), 0);
        due("no string", x.judge(1, 70020), 0);
        due("no string", x.judge(1, 70066), 0);
        due("no doing", x.judge(1, 0), 0);
        due("no doing", x.judge(1, 80000), 0);
        due("no doing", x.judge(1, 90000), 0);
        due("noughts ahead", x.judge(2, 30000), 0);
        judgeOneAfterTheOther(x);
        due("n", x.judge(0, 0), BAD);
        due("n", x.judge(4, 30000), BAD);
        due("n", x.judge(-1, 30000), BAD);
        due("n", x.judge(MOST, 30000), BAD);
        due("six figures", x.judge(1, 100000), BAD);
        due("eleven figures", x.judge(2, 10000000000L), BAD);
        due("sixteen figures", x.judge(3, 1000000000000000L), BAD);
        due("row less than 0", x.judge(3, -1), BAD);
        due("row", x.judge(3, Long.MIN_VALUE), BAD);
        due("row", x.judge(3, Long.MAX_VALUE), BAD);
    }

    private static void judgeOneAfterTheOther(BreakLearner x) {
        due("rule 1 keeps b.", x.judge(3, 211017002642000L), NONE);
        due("rule 1 keeps no bc", x.judge(2, 2110170023L), 1);
        due("a turn, then the digit", x.judge(3, 120004200152000L), NONE);
        due("nothing changes", x.about(2), 4);
        due("nothing changes", x.about(8), 2);
        due("nothing changes", x.level(1, 0), 0);
        due("nothing changes", x.word(2, 1), 0);
        due("nothing changes", x.digit(2, 0), 2);
    }

    private static void share() {
        BreakLearner x = learnt(THREE, 2);
        for (int word = 0; word < 3; word++) {
            due("share of " + word, x.share(word, true), 2);
            due("share of " + word, x.share(word, false), 3);
        }
        due("no such word", x.share(3, true), UNKNOWN);
        due("no such word", x.share(-1, false), UNKNOWN);
        due("no such word", x.share(MOST, false), UNKNOWN);
        due("nothing changes", x.about(2), 4);
        due("nothing changes", x.about(4), 3);
        BreakLearner harm = learnt("Wa-bWabWab", 1);
        due("it does harm only if it is the first", harm.share(0, true), -1);
        due("it does harm only if it is the first", harm.share(0, false), 3);
        due("one word", learnt("Wa-b", 1).share(0, true), 1);
        due("one word", learnt("Wa-b", 1).share(0, false), 1);
        due("nothing learnt", listed("Wa-b").share(0, true), 0);
        due("nothing is 0 of 1", listed("Wa-bWa-b").share(0, false), 1);
        x.drop(2);
        due("the first of two alike", x.share(0, true), 1);
        due("the first of two alike", x.share(0, false), 1);
    }

    private static void see() {
        BreakLearner x = new BreakLearner();
        for (int i : new int[] {-1, 2, LEAST, MOST}) due("place " + i, x.see(i, 0, 0), BAD);
        for (int d : new int[] {-1, 5, LEAST, MOST}) due("digit " + d, x.see(0, d, 0), BAD);
        for (int had : new int[] {-1, 2, LEAST, MOST}) due("had " + had, x.see(0, 0, had), BAD);
        due("refused changes nothing", x.about(9), 0);
        for (int i = 1; i <= 6; i++) due("seen", x.see(i % 2, i % 5, i % 2), i);
        due("full", x.see(0, 0, 0), FULL);
        due("bad is told first", x.see(2, 0, 0), BAD);
        due("refused changes nothing", x.about(9), 6);
        due("no doing", x.about(8), 0);
    }

    private static void unsee() {
        BreakLearner x = new BreakLearner();
        due("none", x.unsee(), 0);
        x.see(0, 4, 1);
        x.see(1, 4, 0);
        due("two", x.unsee(), 2);
        due("none", x.about(9), 0);
        due("all words again", x.which(0), 125);
        due("none", x.unsee(), 0);
    }

    private static void which() {
        BreakLearner x = learnt(THREE, 2);
        due("all", x.which(0), 125);
        due("the first", x.which(1), 111);
        x.see(0, 1, 1);
        due("a ahead or b behind, but no bc", x.which(0), 40);
        due("the first", x.which(1), 111);
        x.see(1, 0, 1);
        due("and neither a nor b round the next", x.which(0), 27);
        due("aba, as aab breaks there", x.which(1), 121);
        x.unsee();
        x.see(0, 2, 1);
        due("bc", x.which(0), 5);
        due("abc", x.which(1), 123);
        x.see(1, 0, 0);
        due("none", x.which(0), 0);
        due("none", x.which(1), NONE);
        for (int what : new int[] {-1, 2, LEAST, MOST}) due("which(" + what + ")", x.which(what), BAD);
        x.unsee();
        x.see(0, 0, 0);
        due("not 0 at the first place", x.which(0), 45);
        x.again(0);
        x.undo();
        due("by patterns as they are", x.which(0), 45);
        x.undo();
        due("no pattern", x.which(0), 0);
    }

    private static void lostIs(BreakLearner x, int v, int tenths, int above, int below) {
        due("lost(" + v + ", " + tenths + ") above", x.lost(v, tenths, true), above);
        due("lost(" + v + ", " + tenths + ") below", x.lost(v, tenths, false), below);
    }

    private static void lost() {
        BreakLearner x = learnt(THREE, 2);
        lostIs(x, 5, 5, 0, 1);
        lostIs(x, 4, 5, 3, 8);
        lostIs(x, 3, 5, 3, 4);
        lostIs(x, 2, 5, 1, 1);
        lostIs(x, 0, 5, 1, 1);
        lostIs(x, 4, 1, 891, 1000);
        lostIs(x, 4, 9, 19, 1000);
        lostIs(x, 4, 0, 1, 1);
        lostIs(x, 5, 0, 0, 1);
        lostIs(x, 2, 10, 1, 1);
        lostIs(x, 3, 10, 0, 1);
        lostIs(x, 30, 3, 0, 1);
        due("nothing changes", x.about(2), 4);
        for (int v : new int[] {-1, 31, LEAST, MOST}) due("v " + v, x.lost(v, 0, true), BAD);
        for (int t : new int[] {-1, 11, LEAST, MOST}) due("x " + t, x.lost(0, t, true), BAD);
        lostIs(new BreakLearner(), 0, 10, 1, 1);
        lostIs(new BreakLearner(), 1, 0, 0, 1);
        BreakLearner six = learnt("Wa-bWc-dWe-eWb-cWd-aWa-c", 1);
        lostIs(six, 6, 0, 1, 1);
        lostIs(six, 0, 1, 1, 1);
        due("learnt from none", six.lost(1, 10, true), 0);
        lostIs(six, 1, 1, 999999, 1000000);
        x.turn(0, 0);
        lostIs(x, 3, 10, 1, 1);
    }

    private static void seed() {
        BreakLearner x = new BreakLearner();
        due("at first", x.seed(Long.MIN_VALUE), 0);
        due("least", x.seed(Long.MAX_VALUE), Long.MIN_VALUE);
        due("greatest", x.seed(0), Long.MAX_VALUE);
        due("nought", x.seed(-1), 0);
        due("no doing", x.about(8), 0);
    }

    /** From the seed 0: caba, edea, ccaa, bebc. */
    private static void drawn() {
        BreakLearner x = learnt("Wa-b", 1);
        due("caba: a, 1", x.drawn(1), 1);
        due("edea", x.drawn(1), 0);
        due("ccaa: a, 1", x.drawn(1), 1);
        due("bebc: b, 0", x.drawn(1), 1);
        x.seed(0);
        due("four", x.drawn(4), 3);
        due("nothing changes but the seed", x.about(8), 1);
        due("the seed", x.seed(0), 7401132627792533940L);
        x.drawn(3);
        due("the seed", x.seed(0), -7280499659394350823L);
        x.drawn(1);
        for (int m : new int[] {0, 21, -1, LEAST, MOST}) due("drawn(" + m + ")", x.drawn(m), BAD);
        due("refused changes nothing", x.seed(0), 1442695040888963407L);
        due("no pattern", new BreakLearner().drawn(20), 0);
        BreakLearner two = learnt(THREE, 2);
        due("caba, edea, ccaa: 1, 0, 1", two.drawn(3), 2);
    }

    private static void keep() {
        BreakLearner x = listed(THREE);
        due("three words", x.keep(0), 3);
        due("the other shelf", x.keep(1), 3);
        for (int shelf : new int[] {-1, 2, LEAST, MOST}) due("shelf " + shelf, x.keep(shelf), UNKNOWN);
        x.study();
        due("doings stay", x.keep(0), 3);
        due("doings stay", x.about(8), 1);
        due("no words", new BreakLearner().keep(0), 0);
    }

    private static void again() {
        BreakLearner x = learnt(THREE, 2);
        x.rule(3, 1, 4);
        x.keep(1);
        due("the other one is empty", x.again(0), LATE);
        due("refused changes nothing", x.about(8), 3);
        x.drop(0);
        x.turn(0, 0);
        x.rule(3, 2, 5);
        x.rule(1, 1, 9);
        x.study();
        x.keep(0);
        due("as it was", x.again(1), 3);
        due("no doings", x.about(8), 0);
        due("nothing to undo", x.undo(), LATE);
        due("words", x.word(0, 0), 12);
        due("breaks", x.word(0, 1), 1);
        due("levels", x.about(3), 2);
        due("rule", x.level(3, 0), 1);
        due("h", x.level(3, 1), 4);
        due("learnt", x.pattern(23, 0), 2);
        due("right", x.about(2), 4);
        x.turn(0, 0);
        due("still as it was", x.again(1), 3);
        due("breaks", x.word(0, 1), 1);
        due("the other one", x.again(0), 2);
        due("levels", x.about(3), 3);
        due("rule", x.level(3, 0), 2);
        due("breaks", x.word(0, 1), 0);
        for (int shelf : new int[] {-1, 2, LEAST, MOST}) due("shelf " + shelf, x.again(shelf), UNKNOWN);
        BreakLearner none = new BreakLearner();
        none.keep(0);
        none.add(12, 1);
        due("kept without a word", none.again(0), 0);
        due("no word", none.about(0), 0);
    }

    private static void test(int number) {
        promise = number;
        switch (number) {
            case 1: aNewObject(); break;
            case 2: write(); break;
            case 3: wipe(); break;
            case 4: fault(); break;
            case 5: list(); break;
            case 6: about(); break;
            case 7: word(); break;
            case 8: digit(); break;
            case 9: level(); break;
            case 10: pattern(); break;
            case 11: add(); break;
            case 12: drop(); break;
            case 13: turn(); break;
            case 14: rule(); break;
            case 15: study(); break;
            case 16: undo(); break;
            case 17: base(); break;
            case 18: slot(); break;
            case 19: ask(); break;
            case 20: earns(); break;
            case 21: judge(); break;
            case 22: share(); break;
            case 23: see(); break;
            case 24: unsee(); break;
            case 25: which(); break;
            case 26: lost(); break;
            case 27: seed(); break;
            case 28: drawn(); break;
            case 29: keep(); break;
            default: again();
        }
    }

    public static void main(String[] args) {
        for (int number = 1; number <= 30; number++) test(number);
        System.out.println(asked + " answers, " + wrong + " are not as due");
        if (wrong != 0) System.exit(1);
    }
}
