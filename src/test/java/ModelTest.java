import java.math.BigInteger;
import java.util.ArrayList;
import java.util.Arrays;
import java.util.HashMap;
import java.util.List;
import java.util.Map;
import java.util.Random;
import java.util.TreeMap;
import java.util.TreeSet;

/**
 * Runs of drawn calls on BreakLearner and on a plain model of the document, written apart from it with texts and
 * maps: every answer must be the same. After each call that may change something a few questions are asked, too.
 */
public final class ModelTest {
    private static final int UNKNOWN = -1, BAD = -2, LATE = -3, FULL = -4, NONE = -9;
    private static final List<String> STRINGS = allStrings();

    /** A word as letters a .. e, and its breaks. */
    private record Word(String letters, int breaks) {
        int places() { return letters.length() - 1; }
        boolean has(int place) { return (breaks >> place & 1) == 1; }
    }

    private record Rule(int rule, int h) {
        boolean keeps(int good, int bad) {
            if (good < 1) return false;
            if (rule == 0) return good - bad >= h;
            if (rule == 1) return bad == 0 && good >= h;
            return good >= h * (bad + 1);
        }
    }

    /** All from which the rest follows; never changed, so that undoing is going back to an older one. */
    private record State(List<Word> words, List<Rule> rules, int learnt) {
        State withWords(List<Word> w) { return new State(List.copyOf(w), rules, learnt); }
        State withLearnt(int l) { return new State(words, rules, l); }
        State withRule(int level, Rule r) {
            List<Rule> copy = new ArrayList<>(rules);
            copy.set(level - 1, r);
            return new State(words, List.copyOf(copy), learnt);
        }
        boolean hasWord(int w) { return w >= 0 && w < words.size(); }
        boolean hasPlace(int w, int p) { return hasWord(w) && p >= 0 && p < words.get(w).places(); }
        State turned(int w, int p) {
            List<Word> copy = new ArrayList<>(words);
            copy.set(w, new Word(words.get(w).letters(), words.get(w).breaks() ^ 1 << p));
            return withWords(copy);
        }
    }

    private record Sight(int place, int digit, boolean had) { }

    private static List<String> allStrings() {
        List<String> all = new ArrayList<>();
        for (String a : "abcde.".split("")) {
            all.add(a);
            for (String b : "abcde.".split("")) {
                all.add(a + b);
                for (String c : "abcde.".split("")) all.add(a + b + c);
            }
        }
        all.removeIf(s -> !s.matches("\\.?[a-e]+\\.?"));
        return all;
    }

    private static String letters(int figures) {
        StringBuilder s = new StringBuilder();
        for (char c : Integer.toString(figures).toCharArray()) s.append(c == '6' ? '.' : (char) ('a' + c - '1'));
        return s.toString();
    }

    private static int figures(String s) {
        int n = 0;
        for (char c : s.toCharArray()) n = n * 10 + (c == '.' ? 6 : c - 'a' + 1);
        return n;
    }

    private static boolean isWord(int figures) { return Integer.toString(figures).matches("[1-5]{2,6}"); }

    private static boolean isString(int figures) {
        return Integer.toString(figures).matches("[1-6]{1,3}") && STRINGS.contains(letters(figures));
    }

    private static boolean fits(String string, int gap, String word, int place) {
        String padded = "." + word + ".";
        int start = place + 2 - gap;
        return start >= 0 && start + string.length() <= padded.length() && padded.startsWith(string, start);
    }

    private static int digit(Map<String, Integer> patterns, String word, int place) {
        int greatest = 0;
        for (Map.Entry<String, Integer> e : patterns.entrySet()) {
            String[] key = e.getKey().split("/");
            if (fits(key[0], Integer.parseInt(key[1]), word, place)) greatest = Math.max(greatest, e.getValue());
        }
        return greatest;
    }

    private static Map<String, Integer> learn(List<Word> words, List<Rule> rules, int learnt) {
        Map<String, Integer> patterns = new TreeMap<>();
        for (int level = 1; level <= learnt; level++) {
            for (int length = 1; length <= 3; length++) {
                Map<String, int[]> counts = new TreeMap<>();
                for (Word w : words) {
                    for (int p = 0; p < w.places(); p++) {
                        boolean broken = digit(patterns, w.letters(), p) % 2 == 1;
                        boolean good = level % 2 == 1 ? w.has(p) && !broken : broken && !w.has(p);
                        boolean bad = level % 2 == 1 ? !w.has(p) : broken && w.has(p);
                        for (String s : STRINGS) {
                            if (s.length() != length || !("." + w.letters() + ".").contains(s)) continue;
                            for (int gap = 0; gap <= length; gap++) {
                                if (!fits(s, gap, w.letters(), p)) continue;
                                int[] c = counts.computeIfAbsent(s + "/" + gap, k -> new int[2]);
                                if (good) c[0]++;
                                if (bad) c[1]++;
                            }
                        }
                    }
                }
                for (Map.Entry<String, int[]> e : counts.entrySet()) {
                    if (rules.get(level - 1).keeps(e.getValue()[0], e.getValue()[1])) patterns.put(e.getKey(), level);
                }
            }
        }
        return patterns;
    }

    private static boolean allRight(Word w, Map<String, Integer> patterns) {
        return right(List.of(w), patterns) == w.places();
    }

    private static int right(List<Word> words, Map<String, Integer> patterns) {
        int sum = 0;
        for (Word w : words) {
            for (int p = 0; p < w.places(); p++) {
                if (digit(patterns, w.letters(), p) % 2 == 1 == w.has(p)) sum++;
            }
        }
        return sum;
    }

    private static int fraction(BigInteger above, BigInteger below, boolean upper) {
        BigInteger g = above.gcd(below);
        return (upper ? above : below).divide(g).intValueExact();
    }

    /** The document, plainly. */
    private static final class Model {
        String text = "";
        State state = new State(List.of(), List.of(new Rule(0, 1), new Rule(0, 1), new Rule(0, 1), new Rule(0, 1)), 0);
        List<State> before = new ArrayList<>();
        List<Sight> sights = new ArrayList<>();
        State[] shelves = new State[2];
        long theSeed = 0;
        Map<String, Integer> patterns = new TreeMap<>();
        Map<Integer, Integer> rights = new HashMap<>();
        Map<String, Integer> bases = new HashMap<>();
        Map<Integer, String> slots = new TreeMap<>();
        TreeSet<String> nodes = new TreeSet<>();

        void now(State s) {
            state = s;
            patterns = learn(s.words(), s.rules(), s.learnt());
            rights.clear();
            pack();
        }

        void doing(State s) {
            before.add(state);
            if (before.size() > 14) before.remove(0);
            now(s);
        }

        void pack() {
            nodes = new TreeSet<>((a, b) -> a.length() != b.length() ? a.length() - b.length() : a.compareTo(b));
            for (String key : patterns.keySet()) {
                String s = Integer.toString(figures(key.split("/")[0]));
                for (int i = 0; i <= s.length(); i++) nodes.add(s.substring(0, i));
            }
            bases.clear();
            slots.clear();
            for (String node : nodes) {
                List<Integer> signs = new ArrayList<>();
                for (int f = 1; f <= 6; f++) if (nodes.contains(node + f)) signs.add(f);
                if (signs.isEmpty()) continue;
                int b = 0;
                while (taken(b, signs)) b++;
                bases.put(node, b);
                for (int f : signs) slots.put(b + f, node + f);
            }
        }

        boolean taken(int b, List<Integer> signs) {
            for (int f : signs) if (slots.containsKey(b + f)) return true;
            return false;
        }

        int write(int letter) {
            if (letter < 0 || letter > 255) return BAD;
            if (text.length() == 64) return FULL;
            text += (char) letter;
            return text.length();
        }

        int wipe() {
            int was = text.length();
            text = "";
            return was;
        }

        /** A beginning can be gone on from, if what is behind its last W can be, and all ahead of it is whole. */
        static boolean canGoOn(String s) {
            if (s.isEmpty()) return true;
            int last = s.lastIndexOf('W');
            if (last < 0 || !isList(s.substring(0, last))) return false;
            String tail = s.substring(last + 1);
            return s.chars().filter(c -> c == 'W').count() <= 6 && tail.matches("([a-e]-?){0,5}|([a-e]-?){5}[a-e]");
        }

        static boolean isList(String s) { return s.matches("(W[a-e](-?[a-e]){1,5}){0,6}"); }

        int fault() {
            for (int i = 1; i <= text.length(); i++) if (!canGoOn(text.substring(0, i))) return i - 1;
            return isList(text) ? NONE : text.length();
        }

        int list() {
            if (fault() != NONE) return LATE;
            List<Word> words = new ArrayList<>();
            for (String told : text.split("W")) {
                if (told.isEmpty()) continue;
                int breaks = 0;
                int hyphens = 0;
                for (int i = 0; i < told.length(); i++) {
                    if (told.charAt(i) == '-') breaks |= 1 << (i - 1 - hyphens++);
                }
                words.add(new Word(told.replace("-", ""), breaks));
            }
            before.clear();
            Arrays.fill(shelves, null);
            now(state.withWords(words).withLearnt(0));
            return words.size();
        }

        int about(int what) {
            int sum = 0;
            switch (what) {
                case 0: return state.words().size();
                case 1:
                    for (Word w : state.words()) sum += w.places();
                    return sum;
                case 2: return right(state.words(), patterns);
                case 3: return state.learnt();
                case 4: return patterns.size();
                case 5:
                    for (int i = 0; i < state.words().size(); i++) {
                        if (!allRight(state.words().get(i), patterns)) sum += 1 << i;
                    }
                    return sum;
                case 6: return nodes.size();
                case 7:
                    for (int slot : slots.keySet()) sum = slot + 1;
                    return sum;
                case 8: return before.size();
                case 9: return sights.size();
                case 10: return text.length();
                default: return BAD;
            }
        }

        int word(int w, int what) {
            if (!state.hasWord(w)) return UNKNOWN;
            Word word = state.words().get(w);
            if (what == 0) return figures(word.letters());
            if (what == 1) return word.breaks();
            if (what != 2) return BAD;
            int bits = 0;
            for (int p = 0; p < word.places(); p++) bits += digit(patterns, word.letters(), p) % 2 << p;
            return bits;
        }

        int digitAt(int w, int p) {
            return state.hasPlace(w, p) ? digit(patterns, state.words().get(w).letters(), p) : UNKNOWN;
        }

        int ofLevel(int level) { return (int) patterns.values().stream().filter(l -> l == level).count(); }

        int level(int level, int what) {
            if (level < 1 || level > 4) return UNKNOWN;
            Rule r = state.rules().get(level - 1);
            return what == 0 ? r.rule() : what == 1 ? r.h() : what == 2 ? ofLevel(level) : BAD;
        }

        int pattern(int string, int gap) {
            if (!isString(string) || gap < 0 || gap > letters(string).length()) return BAD;
            return patterns.getOrDefault(letters(string) + "/" + gap, 0);
        }

        int add(int letters, int breaks) {
            if (!isWord(letters) || breaks < 0 || breaks >= 1 << (letters(letters).length() - 1)) return BAD;
            if (state.words().size() == 6) return FULL;
            List<Word> copy = new ArrayList<>(state.words());
            copy.add(new Word(letters(letters), breaks));
            doing(state.withWords(copy));
            return copy.size();
        }

        int drop(int w) {
            if (!state.hasWord(w)) return UNKNOWN;
            List<Word> copy = new ArrayList<>(state.words());
            Word gone = copy.remove(w);
            doing(state.withWords(copy));
            return figures(gone.letters());
        }

        int turn(int w, int p) {
            if (!state.hasPlace(w, p)) return UNKNOWN;
            doing(state.turned(w, p));
            return state.words().get(w).has(p) ? 1 : 0;
        }

        int rule(int level, int rule, int h) {
            if (level < 1 || level > 4) return UNKNOWN;
            if (rule < 0 || rule > 2 || h < 1 || h > 9) return BAD;
            doing(state.withRule(level, new Rule(rule, h)));
            return about(2);
        }

        int study() {
            if (state.learnt() == 4) return FULL;
            doing(state.withLearnt(state.learnt() + 1));
            return ofLevel(state.learnt());
        }

        int undo() {
            if (before.isEmpty()) return LATE;
            now(before.remove(before.size() - 1));
            return before.size();
        }

        int base(int string) {
            if (string != 0 && !Integer.toString(string).matches("[1-6]{1,3}")) return BAD;
            return bases.getOrDefault(string == 0 ? "" : Integer.toString(string), NONE);
        }

        int slot(int i) {
            if (i < 0) return BAD;
            return slots.containsKey(i) ? Integer.parseInt(slots.get(i)) : NONE;
        }

        int ask(int letters, int i) {
            if (!isWord(letters)) return BAD;
            if (i < 0 || i >= letters(letters).length() - 1) return UNKNOWN;
            return digit(patterns, letters(letters), i);
        }

        int earns(int string) {
            if (!isString(string)) return BAD;
            Map<String, Integer> others = new TreeMap<>(patterns);
            others.keySet().removeIf(k -> k.split("/")[0].equals(letters(string)));
            return about(2) - right(state.words(), others);
        }

        int judge(int n, long row) {
            if (n < 1 || n > 3 || row < 0 || Long.toString(row).length() > 5 * n) return BAD;
            String told = String.format("%0" + 5 * n + "d", row);
            State s = state;
            for (int i = 0; i < n; i++) {
                s = judged(s, told.substring(5 * i, 5 * i + 5));
                if (s == null) return i;
            }
            return NONE;
        }

        static State judged(State s, String t) {
            Map<String, Integer> p = learn(s.words(), s.rules(), s.learnt());
            int a = t.charAt(1) - '0';
            int b = t.charAt(2) - '0';
            int d = t.charAt(4) - '0';
            if (t.matches("1..00")) return s.hasPlace(a, b) ? s.turned(a, b) : null;
            if (t.matches("2[1-4][0-2]0[1-9]")) return s.withRule(a, new Rule(b, d));
            if (t.equals("30000")) return s.learnt() < 4 ? s.withLearnt(s.learnt() + 1) : null;
            boolean so = false;
            if (t.matches("4..0.")) so = s.hasPlace(a, b) && digit(p, s.words().get(a).letters(), b) == d;
            if (t.matches("5.000")) so = s.hasWord(a) && allRight(s.words().get(a), p);
            if (t.matches("600..")) so = right(s.words(), p) >= Integer.parseInt(t.substring(3));
            if (t.matches("7.0{0,2}[1-6]+")) {
                so = p.containsKey(letters(Integer.parseInt(t.substring(2))) + "/" + a);
            }
            return so ? s : null;
        }

        int rightsOf(int mask) {
            return rights.computeIfAbsent(mask, m -> {
                List<Word> some = new ArrayList<>();
                for (int i = 0; i < state.words().size(); i++) if ((m >> i & 1) == 1) some.add(state.words().get(i));
                return right(state.words(), learn(some, state.rules(), state.learnt()));
            });
        }

        /** Over all orders, one by one: what is more right when the word comes, summed, and how many orders. */
        int[] orders(int word, int come) {
            int n = state.words().size();
            if (come == (1 << n) - 1) return new int[] {0, 1};
            int[] sum = new int[2];
            for (int next = 0; next < n; next++) {
                if ((come >> next & 1) == 1) continue;
                int[] rest = orders(word, come | 1 << next);
                int more = next == word ? rightsOf(come | 1 << next) - rightsOf(come) : 0;
                sum[0] += rest[0] + more * rest[1];
                sum[1] += rest[1];
            }
            return sum;
        }

        int share(int w, boolean upper) {
            if (!state.hasWord(w)) return UNKNOWN;
            int[] sum = orders(w, 0);
            return fraction(BigInteger.valueOf(sum[0]), BigInteger.valueOf(sum[1]), upper);
        }

        int see(int i, int d, int had) {
            if (i < 0 || i > 1 || d < 0 || d > 4 || had < 0 || had > 1) return BAD;
            if (sights.size() == 6) return FULL;
            sights.add(new Sight(i, d, had == 1));
            return sights.size();
        }

        int unsee() {
            int was = sights.size();
            sights.clear();
            return was;
        }

        int which(int what) {
            if (what != 0 && what != 1) return BAD;
            TreeSet<Integer> all = new TreeSet<>();
            for (int f = 111; f <= 555; f++) {
                if (!isWord(f)) continue;
                boolean agrees = true;
                for (Sight s : sights) agrees &= digit(patterns, letters(f), s.place()) == s.digit() == s.had();
                if (agrees) all.add(f);
            }
            return what == 0 ? all.size() : all.isEmpty() ? NONE : all.first();
        }

        int lost(int v, int x, boolean upper) {
            if (v < 0 || v > 30 || x < 0 || x > 10) return BAD;
            int n = state.words().size();
            BigInteger sum = BigInteger.ZERO;
            for (int mask = 0; mask < 1 << n; mask++) {
                BigInteger way = BigInteger.ONE;
                for (int i = 0; i < n; i++) way = way.multiply(BigInteger.valueOf((mask >> i & 1) == 1 ? 10 - x : x));
                if (rightsOf(mask) >= v) sum = sum.add(way);
            }
            return fraction(sum, BigInteger.TEN.pow(n), upper);
        }

        long seed(long v) {
            long was = theSeed;
            theSeed = v;
            return was;
        }

        int drawn(int m) {
            if (m < 1 || m > 20) return BAD;
            int sum = 0;
            for (int i = 0; i < m; i++) {
                BigInteger x = BigInteger.valueOf(theSeed).multiply(new BigInteger("6364136223846793005"))
                        .add(new BigInteger("1442695040888963407")).mod(BigInteger.TWO.pow(64));
                theSeed = x.longValue();
                long upper = x.shiftRight(33).longValueExact();
                String word = "";
                for (long by : new long[] {1, 8, 64, 512}) word += letters((int) (upper / by % 5 + 1));
                for (int p = 0; p < 3; p++) sum += digit(patterns, word, p);
            }
            return sum;
        }

        int keep(int shelf) {
            if (shelf < 0 || shelf > 1) return UNKNOWN;
            shelves[shelf] = state;
            return state.words().size();
        }

        int again(int shelf) {
            if (shelf < 0 || shelf > 1) return UNKNOWN;
            if (shelves[shelf] == null) return LATE;
            before.clear();
            now(shelves[shelf]);
            return state.words().size();
        }
    }

    // ---- the runs

    private static int wrong = 0;
    private static int calls = 0;

    private final BreakLearner x = new BreakLearner();
    private final Model model = new Model();
    private final Random random;
    private final List<String> told = new ArrayList<>();
    private final int run;
    private boolean failed;

    private ModelTest(int run) {
        this.run = run;
        random = new Random(run);
    }

    private void same(String call, long got, long want) {
        calls++;
        told.add(call + " = " + got);
        if (got == want || failed) return;
        failed = true;
        wrong++;
        System.out.println("run " + run + ": " + call + " answered " + got + ", due is " + want + "; calls: " + told);
    }

    private int any(int from, int to) { return from + random.nextInt(to - from + 1); }

    private boolean yes(int ofTen) { return random.nextInt(10) < ofTen; }

    private int anyWord(int letters) {
        int most = yes(5) ? 2 : 5;
        int size = any(2, 6);
        if (yes(1)) size = any(1, 7);
        int n = 0;
        for (int i = 0; i < size; i++) n = n * 10 + any(1, most);
        return yes(1) ? n + any(0, 5) : n;
    }

    private int anyString() {
        if (!model.patterns.isEmpty() && yes(6)) {
            List<String> keys = new ArrayList<>(model.patterns.keySet());
            return figures(keys.get(random.nextInt(keys.size())).split("/")[0]);
        }
        return yes(8) ? figures(STRINGS.get(random.nextInt(STRINGS.size()))) : any(-2, 1200);
    }

    private int wildly(int from, int to) {
        if (!yes(1)) return any(from, to);
        int[] wild = {from - 1, to + 1, -1, Integer.MIN_VALUE, Integer.MAX_VALUE, 1 << 20};
        return wild[random.nextInt(wild.length)];
    }

    private void writeAll(String s) {
        for (int i = 0; i < s.length(); i++) {
            int c = s.charAt(i);
            same("write(" + c + ")", x.write(c), model.write(c));
        }
    }

    private String anyList(int most) {
        StringBuilder s = new StringBuilder();
        int words = any(0, 6);
        for (int w = 0; w < words; w++) {
            s.append('W');
            int size = any(2, 6);
            for (int i = 0; i < size; i++) {
                if (i > 0 && yes(4)) s.append('-');
                s.append((char) ('a' + random.nextInt(most)));
            }
        }
        if (yes(3) && s.length() > 0) s.setCharAt(random.nextInt(s.length()), "Wa-bz\u0000\u00ff".charAt(any(0, 6)));
        return s.toString();
    }

    private void listCalls() {
        same("wipe()", x.wipe(), model.wipe());
        writeAll(anyList(yes(5) ? 2 : 5));
        same("fault()", x.fault(), model.fault());
        int letter = wildly(0, 255);
        if (yes(2)) same("write(" + letter + ")", x.write(letter), model.write(letter));
        same("list()", x.list(), model.list());
    }

    private void doingCall() {
        int w = wildly(0, Math.max(0, model.state.words().size() - 1));
        int p = wildly(0, 5);
        switch (any(0, 9)) {
            case 0: case 1: {
                int letters = anyWord(0);
                int breaks = wildly(0, (1 << Math.max(0, Integer.toString(letters).length() - 1)) - 1);
                same("add(" + letters + ", " + breaks + ")", x.add(letters, breaks), model.add(letters, breaks));
                break;
            }
            case 2: same("drop(" + w + ")", x.drop(w), model.drop(w)); break;
            case 3: case 4: same("turn(" + w + ", " + p + ")", x.turn(w, p), model.turn(w, p)); break;
            case 5: case 6: {
                int l = wildly(1, 4);
                int r = wildly(0, 2);
                int h = yes(7) ? any(1, 2) : wildly(1, 9);
                same("rule(" + l + ", " + r + ", " + h + ")", x.rule(l, r, h), model.rule(l, r, h));
                break;
            }
            case 7: case 8: same("study()", x.study(), model.study()); break;
            default: same("undo()", x.undo(), model.undo());
        }
    }

    private void keepCall() {
        int shelf = wildly(0, 1);
        if (yes(5)) same("keep(" + shelf + ")", x.keep(shelf), model.keep(shelf));
        else same("again(" + shelf + ")", x.again(shelf), model.again(shelf));
    }

    private void seenCall() {
        int i = wildly(0, 1);
        int d = yes(7) ? any(0, 2) : wildly(0, 4);
        int had = wildly(0, 1);
        if (yes(7)) same("see(" + i + ", " + d + ", " + had + ")", x.see(i, d, had), model.see(i, d, had));
        else same("unsee()", x.unsee(), model.unsee());
        for (int what = -1; what <= 2; what++) same("which(" + what + ")", x.which(what), model.which(what));
    }

    private long anyTold() {
        int w = any(0, 6);
        int p = any(0, 5);
        switch (any(1, 8)) {
            case 1: return 10000 + w * 1000 + p * 100 + (yes(1) ? 1 : 0);
            case 2: return 20000 + any(0, 5) * 1000 + any(0, 3) * 100 + any(0, 3) + (yes(1) ? 10 : 0);
            case 3: return 30000 + (yes(1) ? 100 : 0);
            case 4: return 40000 + w * 1000 + p * 100 + Math.max(0, model.digitAt(w, p)) + (yes(1) ? 10 : 0);
            case 5: return 50000 + w * 1000 + (yes(1) ? 10 : 0);
            case 6: return 60000 + Math.max(0, model.about(2) + any(-3, 1)) + (yes(1) ? 100 : 0);
            case 7: return 70000 + any(0, 4) * 1000 + Math.abs(anyString()) % 1000;
            default: return any(0, 99999);
        }
    }

    private void judgeCall() {
        int n = yes(9) ? any(1, 3) : any(-1, 5);
        long row = 0;
        for (int i = 0; i < n; i++) row = row * 100000 + anyTold();
        if (yes(1)) row = yes(5) ? -row : row * 10;
        same("judge(" + n + ", " + row + ")", x.judge(n, row), model.judge(n, row));
    }

    private void chanceCall() {
        int w = wildly(0, Math.max(0, model.state.words().size() - 1));
        int v = yes(7) ? Math.min(30, Math.max(0, model.about(2) + any(-6, 1))) : wildly(0, 30);
        int t = wildly(0, 10);
        for (boolean upper : new boolean[] {true, false}) {
            same("share(" + w + ", " + upper + ")", x.share(w, upper), model.share(w, upper));
            String call = "lost(" + v + ", " + t + ", " + upper + ")";
            same(call, x.lost(v, t, upper), model.lost(v, t, upper));
        }
    }

    private void drawnCall() {
        int m = wildly(1, 20);
        if (yes(3)) {
            long v = random.nextLong();
            same("seed(" + v + ")", x.seed(v), model.seed(v));
        }
        same("drawn(" + m + ")", x.drawn(m), model.drawn(m));
    }

    private void questions() {
        for (int what = -1; what <= 11; what++) same("about(" + what + ")", x.about(what), model.about(what));
        int w = wildly(0, 5);
        int p = wildly(0, 4);
        int what = wildly(0, 2);
        int level = wildly(1, 4);
        same("word(" + w + ", " + what + ")", x.word(w, what), model.word(w, what));
        same("digit(" + w + ", " + p + ")", x.digit(w, p), model.digitAt(w, p));
        same("level(" + level + ", " + what + ")", x.level(level, what), model.level(level, what));
        int s = anyString();
        int gap = wildly(0, 3);
        same("pattern(" + s + ", " + gap + ")", x.pattern(s, gap), model.pattern(s, gap));
        same("earns(" + s + ")", x.earns(s), model.earns(s));
        int begin = s / 10;
        same("base(" + s + ")", x.base(s), model.base(s));
        same("base(" + begin + ")", x.base(begin), model.base(begin));
        int i = wildly(0, Math.max(3, model.about(7)));
        same("slot(" + i + ")", x.slot(i), model.slot(i));
        int letters = anyWord(0);
        same("ask(" + letters + ", " + p + ")", x.ask(letters, p), model.ask(letters, p));
    }

    /** The document says nothing of what comes behind the 512th call. */
    private void go() {
        listCalls();
        while (told.size() < 440 && !failed) {
            int kind = any(0, 19);
            if (kind == 0) keepCall();
            else if (kind == 1) seenCall();
            else if (kind == 2) judgeCall();
            else if (kind == 3) chanceCall();
            else if (kind == 4) drawnCall();
            else if (kind == 5 && yes(3) && told.size() < 330) listCalls();
            else if (kind < 15) doingCall();
            else questions();
        }
    }

    public static void main(String[] args) {
        int runs = args.length > 0 ? Integer.parseInt(args[0]) : 150;
        for (int run = 1; run <= runs; run++) new ModelTest(run).go();
        System.out.println(calls + " calls, " + wrong + " runs went wrong");
        if (wrong != 0) System.exit(1);
    }
}
