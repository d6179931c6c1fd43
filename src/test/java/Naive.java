import java.math.BigInteger;
import java.util.ArrayDeque;
import java.util.ArrayList;
import java.util.Arrays;
import java.util.Comparator;
import java.util.HashMap;
import java.util.HashSet;
import java.util.List;
import java.util.Map;
import java.util.Set;
import java.util.TreeMap;
import java.util.TreeSet;
import java.util.function.Supplier;
import java.util.regex.Matcher;
import java.util.regex.Pattern;

/**
 * The document told once more, as plainly as can be and without a thought of speed: rows of
 * places are listed one by one, sentences are rewritten as texts, trees are objects. The tests
 * compare what PackedForest answers with what this answers.
 */
final class Naive {
    /** Stands for "this model can't tell": the answer is not compared. */
    static final int UNKNOWN = Integer.MIN_VALUE;

    record Rule(char left, String right, int rank, int side) { }

    record Ban(int rule, int place, int below) { }

    record Scene(String text, Set<Integer> struck, List<Ban> bans, Set<Integer> filters) { }

    record Image(List<Rule> rules, Scene scene, List<Scene> past, long x) { }

    private String tape = "";
    private List<Rule> rules = List.of();
    private Scene scene = freshScene();
    private List<Scene> past = new ArrayList<>();
    private long x;
    private final Image[] images = new Image[4];

    private static Scene freshScene() {
        return new Scene("", Set.of(), List.of(), new TreeSet<>(List.of(0, 1, 2)));
    }

    // ---- tape, grammar

    int feed(int a, int b, int c, int d, int e) {
        if (tape.length() + 20 > 400) {
            return -1;
        }
        StringBuilder bytes = new StringBuilder(tape);
        for (int number : new int[] {a, b, c, d, e}) {
            for (int k = 3; k >= 0; k--) {
                bytes.append((char) (number >>> 8 * k & 255));
            }
        }
        tape = bytes.toString();
        return tape.length();
    }

    int end(int n) {
        if (n < 0 || n > tape.length()) {
            return -1;
        }
        tape = tape.substring(0, n);
        return n;
    }

    private static final String RULE_TEXT = " *[A-Z] *= *(?:[A-Za-z] *){0,4}(?:: *[1-9] *(?:[<>!] *)?)?";
    private static final Pattern GRAMMAR_TEXT = Pattern.compile(RULE_TEXT + "(?:;" + RULE_TEXT + "){0,11}");
    /** Behind the last rule there may be, too, a ; can stand: what is wrong comes behind it. */
    private static final Pattern BEGUN_TEXT = Pattern.compile(GRAMMAR_TEXT.pattern() + "(?:; *\uffff)?");
    private static final Pattern BEFORE_LEFT = Pattern.compile("(?s)(?:.*;)? *");
    private static final Pattern BEFORE_RANK = Pattern.compile("(?s).*: *");
    private static final Pattern FULL_RIGHT = Pattern.compile("(?s)(?:.*;)? *[A-Z] *= *(?:[A-Za-z] *){4}");

    int grammar() {
        String text = tape;
        tape = "";
        int fault = fault(text);
        if (fault != 0) {
            return -2 - fault;
        }
        rules = rulesOf(text);
        scene = freshScene();
        past = new ArrayList<>();
        return rules.size();
    }

    private static boolean canGoOn(String prefix) {
        Matcher matcher = BEGUN_TEXT.matcher(prefix);
        return matcher.matches() || matcher.hitEnd();
    }

    private static boolean isCapital(char c) {
        return c >= 'A' && c <= 'Z';
    }

    private static boolean isLetter(char c) {
        return isCapital(c) || c >= 'a' && c <= 'z';
    }

    private static int fault(String text) {
        Set<Character> lefts = new TreeSet<>();
        for (int p = 0; p < text.length(); p++) {
            char c = text.charAt(p);
            String before = text.substring(0, p);
            boolean onLeft = BEFORE_LEFT.matcher(before).matches();
            if (!canGoOn(text.substring(0, p + 1))) {
                int kind = 0;
                if (BEFORE_RANK.matcher(before).matches()) {
                    kind = 1;
                } else if (isLetter(c) && FULL_RIGHT.matcher(before).matches()) {
                    kind = 3;
                } else if (isCapital(c) && onLeft) {
                    kind = 4;
                }
                return 1 + 8 * p + kind;
            }
            if (onLeft && isCapital(c)) {
                lefts.add(c);
                if (lefts.size() == 6) {
                    return 1 + 8 * p + 4;
                }
            }
        }
        if (!GRAMMAR_TEXT.matcher(text).matches()) {
            return 1 + 8 * text.length();
        }
        for (int p = 0; p < text.length(); p++) {
            if (isCapital(text.charAt(p)) && !lefts.contains(text.charAt(p))) {
                return 1 + 8 * p + 2;
            }
        }
        return statesOf(rulesOf(text), Set.of()).size() > 90 ? 1 + 8 * text.length() + 5 : 0;
    }

    private static List<Rule> rulesOf(String text) {
        List<Rule> rules = new ArrayList<>();
        for (String part : text.replace(" ", "").split(";", -1)) {
            String[] halves = part.substring(2).split(":", -1);
            int rank = halves.length < 2 ? 0 : halves[1].charAt(0) - '0';
            int side = halves.length < 2 || halves[1].length() < 2 ? 0 : "<>!".indexOf(halves[1].charAt(1)) + 1;
            rules.add(new Rule(part.charAt(0), halves[0], rank, side));
        }
        return rules;
    }

    // ---- letters as numbers

    private static int number(char c) {
        return isCapital(c) ? c - 'A' + 26 : c - 'a';
    }

    private static char sign(int number) {
        return (char) (number < 26 ? 'a' + number : 'A' + number - 26);
    }

    private static int bits(Set<Character> letters) {
        int bits = 0;
        for (char c : letters) {
            bits |= c == '$' ? 1 << 26 : 1 << (isCapital(c) ? c - 'A' : c - 'a');
        }
        return bits;
    }

    private Set<Character> lefts() {
        Set<Character> lefts = new TreeSet<>();
        for (Rule rule : rules) {
            lefts.add(rule.left);
        }
        return lefts;
    }

    private boolean isLeft(int capital) {
        return capital >= 26 && capital < 52 && lefts().contains(sign(capital));
    }

    private boolean isTold(int rule) {
        return !scene.struck.contains(rule);
    }

    private boolean isRule(int rule) {
        return rule >= 0 && rule < rules.size();
    }

    private boolean isSpan(int m, int n) {
        return 0 <= m && m <= n && n <= scene.text.length();
    }

    private List<String> rightsOf(char capital) {
        List<String> rights = new ArrayList<>();
        for (int r = 0; r < rules.size(); r++) {
            if (rules.get(r).left == capital && isTold(r)) {
                rights.add(rules.get(r).right);
            }
        }
        return rights;
    }

    // ---- rules, facts

    int rule(int rule, int what) {
        if (!isRule(rule) || what < 0 || what > 4) {
            return -1;
        }
        Rule r = rules.get(rule);
        int[] answers = {number(r.left), r.right.length(), r.rank, r.side, isTold(rule) ? 0 : 1};
        return answers[what];
    }

    int symbol(int rule, int place) {
        if (!isRule(rule) || place < 0 || place >= rules.get(rule).right.length()) {
            return -1;
        }
        return number(rules.get(rule).right.charAt(place));
    }

    private static final int NO_ROW = 1000000;

    private Map<Character, Integer> shortRows() {
        Map<Character, Integer> rows = new TreeMap<>();
        for (char c : lefts()) {
            rows.put(c, NO_ROW);
        }
        for (int round = 0; round < 20; round++) {
            for (char c : lefts()) {
                for (String right : rightsOf(c)) {
                    int sum = 0;
                    for (char s : right.toCharArray()) {
                        sum += isCapital(s) ? rows.get(s) : 1;
                    }
                    rows.put(c, Math.min(rows.get(c), sum));
                }
            }
        }
        return rows;
    }

    private Set<Character> empties() {
        Set<Character> empties = new TreeSet<>();
        shortRows().forEach((c, n) -> {
            if (n == 0) {
                empties.add(c);
            }
        });
        return empties;
    }

    /** All rows of symbols made of one by steps, each cut to so many symbols, or left aside if longer. */
    private Set<String> rowsMadeOf(String row, int most, boolean cut, boolean withItself) {
        Set<Character> empties = empties();
        Set<String> seen = new HashSet<>();
        ArrayDeque<String> open = new ArrayDeque<>();
        if (withItself) {
            seen.add(row);
        }
        open.add(row);
        while (!open.isEmpty()) {
            String one = open.poll();
            for (int p = 0; p < one.length(); p++) {
                if (isCapital(one.charAt(p))) {
                    List<String> puts = new ArrayList<>(rightsOf(one.charAt(p)));
                    boolean first = one.equals(row) && !withItself && one.length() == 1;
                    if (empties.contains(one.charAt(p)) && !first) {
                        puts.add("");
                    }
                    for (String put : puts) {
                        String made = one.substring(0, p) + put + one.substring(p + 1);
                        if (made.length() > most) {
                            if (!cut) {
                                continue;
                            }
                            made = made.substring(0, most);
                        }
                        if (seen.add(made)) {
                            open.add(made);
                        }
                    }
                }
            }
        }
        return seen;
    }

    int facts(int what) {
        if (rules.isEmpty() || what < 0 || what > 5) {
            return -1;
        }
        Set<Character> found = new TreeSet<>();
        for (char c : lefts()) {
            boolean is;
            switch (what) {
                case 0: is = empties().contains(c); break;
                case 1: is = shortRows().get(c) < NO_ROW; break;
                case 2: is = reached().contains(c); break;
                case 3: is = rowsMadeOf("" + c, 4, false, false).contains("" + c); break;
                case 4: is = rowsMadeOf("" + c, 4, true, false).stream().anyMatch(r -> r.startsWith("" + c)); break;
                default: is = true; break;
            }
            if (is) {
                found.add(c);
            }
        }
        return bits(found);
    }

    private Set<Character> reached() {
        Set<Character> reached = new TreeSet<>();
        ArrayDeque<Character> open = new ArrayDeque<>(List.of(rules.get(0).left));
        while (!open.isEmpty()) {
            char c = open.poll();
            if (reached.add(c)) {
                for (String right : rightsOf(c)) {
                    for (char s : right.toCharArray()) {
                        if (isCapital(s)) {
                            open.add(s);
                        }
                    }
                }
            }
        }
        return reached;
    }

    int firsts(int capital) {
        if (!isLeft(capital)) {
            return -1;
        }
        Set<Character> firsts = new TreeSet<>();
        for (String row : rowsMadeOf("" + sign(capital), 4, true, true)) {
            if (!row.isEmpty() && !isCapital(row.charAt(0))) {
                firsts.add(row.charAt(0));
            }
        }
        return bits(firsts);
    }

    /** Windows of six symbols over rows made of the start, the end being a sign of its own. */
    int follows(int capital) {
        if (!isLeft(capital)) {
            return -1;
        }
        Set<Character> empties = empties();
        Set<String> seen = new HashSet<>();
        ArrayDeque<String> open = new ArrayDeque<>(List.of(rules.get(0).left + "$"));
        Set<Character> follows = new TreeSet<>();
        while (!open.isEmpty()) {
            String one = open.poll();
            if (one.length() > 6) {
                one = one.substring(0, 6);
            }
            if (one.length() < 2 || !seen.add(one)) {
                continue;
            }
            if (seen.size() > 60000) {
                return UNKNOWN;
            }
            if (one.charAt(0) == sign(capital) && !isCapital(one.charAt(1))) {
                follows.add(one.charAt(1));
            }
            open.add(one.substring(1));
            for (int p = 0; p < one.length(); p++) {
                if (isCapital(one.charAt(p))) {
                    String rest = one.substring(p + 1);
                    for (String right : rightsOf(one.charAt(p))) {
                        open.add(one.substring(0, p) + right + rest);
                    }
                    if (empties.contains(one.charAt(p))) {
                        open.add(one.substring(0, p) + rest);
                    }
                }
            }
        }
        return bits(follows);
    }

    int shortest(int capital) {
        if (!isLeft(capital)) {
            return -1;
        }
        int n = shortRows().get(sign(capital));
        return n >= NO_ROW ? -2 : n;
    }

    // ---- states: sets of "rule.point"

    private static Set<String> closed(List<Rule> rules, Set<Integer> struck, Set<String> points) {
        Set<String> all = new TreeSet<>(points);
        ArrayDeque<String> open = new ArrayDeque<>(points);
        while (!open.isEmpty()) {
            String[] point = open.poll().split("\\.");
            String right = rules.get(Integer.parseInt(point[0])).right;
            int n = Integer.parseInt(point[1]);
            for (int r = 0; r < rules.size() && n < right.length(); r++) {
                String first = r + ".0";
                if (rules.get(r).left == right.charAt(n) && !struck.contains(r) && all.add(first)) {
                    open.add(first);
                }
            }
        }
        return all;
    }

    private static Set<String> gone(List<Rule> rules, Set<Integer> struck, Set<String> state, char symbol) {
        Set<String> behind = new TreeSet<>();
        for (String point : state) {
            String[] parts = point.split("\\.");
            String right = rules.get(Integer.parseInt(parts[0])).right;
            int n = Integer.parseInt(parts[1]);
            if (n < right.length() && right.charAt(n) == symbol) {
                behind.add(parts[0] + "." + (n + 1));
            }
        }
        return behind.isEmpty() ? null : closed(rules, struck, behind);
    }

    private static List<Set<String>> statesOf(List<Rule> rules, Set<Integer> struck) {
        Set<String> first = new TreeSet<>();
        for (int r = 0; r < rules.size(); r++) {
            if (rules.get(r).left == rules.get(0).left && !struck.contains(r)) {
                first.add(r + ".0");
            }
        }
        List<Set<String>> states = new ArrayList<>();
        Set<Set<String>> known = new HashSet<>();
        states.add(closed(rules, struck, first));
        known.add(states.get(0));
        for (int k = 0; k < states.size() && states.size() <= 90; k++) {
            for (int s = 0; s < 52; s++) {
                Set<String> next = gone(rules, struck, states.get(k), sign((s + 26) % 52));
                if (next != null && known.add(next)) {
                    states.add(next);
                }
            }
        }
        return states;
    }

    private List<Rule> statesRules;
    private Set<Integer> statesStruck;
    private List<Set<String>> states;

    private List<Set<String>> allStates() {
        if (rules != statesRules || !scene.struck.equals(statesStruck)) {
            states = statesOf(rules, scene.struck);
            statesRules = rules;
            statesStruck = scene.struck;
        }
        return states;
    }

    private boolean isState(int state) {
        return !rules.isEmpty() && state >= 0 && state < allStates().size();
    }

    int states() {
        return rules.isEmpty() ? -1 : allStates().size();
    }

    int goes(int state, int symbol) {
        if (!isState(state) || symbol < 0 || symbol > 51) {
            return -1;
        }
        Set<String> next = gone(rules, scene.struck, allStates().get(state), sign(symbol));
        return next == null ? -2 : allStates().indexOf(next);
    }

    int points(int state, int rule) {
        if (!isState(state) || !isRule(rule)) {
            return -1;
        }
        int bits = 0;
        for (int n = 0; n <= 4; n++) {
            bits |= allStates().get(state).contains(rule + "." + n) ? 1 << n : 0;
        }
        return bits;
    }

    int done(int state) {
        if (!isState(state)) {
            return -1;
        }
        int bits = 0;
        for (String point : allStates().get(state)) {
            String[] parts = point.split("\\.");
            int r = Integer.parseInt(parts[0]);
            boolean nulled = true;
            for (char c : rules.get(r).right.substring(Integer.parseInt(parts[1])).toCharArray()) {
                nulled &= empties().contains(c);
            }
            bits |= nulled ? 1 << r : 0;
        }
        return bits;
    }

    int clashes() {
        if (rules.isEmpty()) {
            return -1;
        }
        Map<Character, Integer> follow = new HashMap<>();
        for (char c : lefts()) {
            follow.put(c, follows(number(c)));
            if (follow.get(c) == UNKNOWN) {
                return UNKNOWN;
            }
        }
        int clashing = 0;
        for (int k = 0; k < allStates().size(); k++) {
            boolean clash = false;
            for (int small = 0; small <= 26; small++) {
                int acts = small < 26 && goes(k, small) >= 0 ? 1 : 0;
                for (int r = 0; r < rules.size(); r++) {
                    boolean last = allStates().get(k).contains(r + "." + rules.get(r).right.length());
                    acts += last && (follow.get(rules.get(r).left) >> small & 1) != 0 ? 1 : 0;
                }
                clash |= acts > 1;
            }
            clashing += clash ? 1 : 0;
        }
        return clashing;
    }

    // ---- acts

    private void act(Scene next) {
        past.add(scene);
        if (past.size() > 20) {
            past.remove(0);
        }
        scene = next;
    }

    private void actText(String text) {
        act(new Scene(text, scene.struck, scene.bans, scene.filters));
    }

    int read(int small) {
        if (rules.isEmpty() || small < 0 || small > 25 || scene.text.length() == 12) {
            return -1;
        }
        actText(scene.text + sign(small));
        return scene.text.length();
    }

    int drop() {
        if (scene.text.isEmpty()) {
            return -1;
        }
        int last = scene.text.length() - 1;
        int small = number(scene.text.charAt(last));
        actText(scene.text.substring(0, last));
        return small;
    }

    int change(int place, int small) {
        if (letter(place) == -1 || small < 0 || small > 25 || small == letter(place)) {
            return -1;
        }
        int old = letter(place);
        actText(scene.text.substring(0, place) + sign(small) + scene.text.substring(place + 1));
        return old;
    }

    int strike(int rule) {
        if (!isRule(rule)) {
            return -1;
        }
        Set<Integer> struck = new TreeSet<>(scene.struck);
        if (!struck.remove(rule)) {
            struck.add(rule);
        }
        int many = statesOf(rules, struck).size();
        if (many > 90) {
            return -2;
        }
        act(new Scene(scene.text, struck, scene.bans, scene.filters));
        return many;
    }

    int ban(int rule, int place, int below) {
        if (symbol(rule, place) < 26 || !isRule(below) || symbol(rule, place) != rule(below, 0)) {
            return -1;
        }
        List<Ban> bans = new ArrayList<>(scene.bans);
        if (!bans.remove(new Ban(rule, place, below))) {
            bans.add(new Ban(rule, place, below));
        }
        if (bans.size() > 8) {
            return -1;
        }
        act(new Scene(scene.text, scene.struck, bans, scene.filters));
        return bans.size();
    }

    int filter(int filter) {
        if (rules.isEmpty() || filter < 0 || filter > 2) {
            return -1;
        }
        Set<Integer> filters = new TreeSet<>(scene.filters);
        if (!filters.remove(filter)) {
            filters.add(filter);
        }
        act(new Scene(scene.text, scene.struck, scene.bans, filters));
        return count(5);
    }

    int undo() {
        if (past.isEmpty()) {
            return -2;
        }
        scene = past.remove(past.size() - 1);
        return past.size();
    }

    int letter(int place) {
        return place < 0 || place >= scene.text.length() ? -1 : number(scene.text.charAt(place));
    }

    // ---- trees by rows of ends

    private boolean forbidden(int r, int k, int q) {
        Rule above = rules.get(r);
        Rule below = rules.get(q);
        boolean ranked = above.rank > 0 && below.rank > 0;
        if (scene.filters.contains(0) && ranked && below.rank < above.rank) {
            return true;
        }
        if (scene.filters.contains(1) && ranked && below.rank == above.rank) {
            boolean wrong = above.side == 1 && k != 0
                || above.side == 2 && k != above.right.length() - 1
                || above.side == 3;
            if (wrong) {
                return true;
            }
        }
        return scene.filters.contains(2) && scene.bans.contains(new Ban(r, k, q));
    }

    /** Which rules have a tree where, and by which rows of ends. */
    private final class Parse {
        final boolean filtered;
        final boolean[][][] has;

        Parse(boolean filtered) {
            this.filtered = filtered;
            int n = scene.text.length();
            has = new boolean[rules.size()][n + 1][n + 1];
            boolean changed = true;
            while (changed) {
                changed = false;
                for (int r = 0; r < rules.size(); r++) {
                    for (int i = 0; i <= n; i++) {
                        for (int j = i; j <= n; j++) {
                            if (!has[r][i][j] && !rows(r, i, j).isEmpty()) {
                                has[r][i][j] = true;
                                changed = true;
                            }
                        }
                    }
                }
            }
        }

        List<Integer> below(int r, int k, int i, int j) {
            List<Integer> found = new ArrayList<>();
            for (int q = 0; q < rules.size(); q++) {
                if (rules.get(q).left == rules.get(r).right.charAt(k) && has[q][i][j]
                    && !(filtered && forbidden(r, k, q))) {
                    found.add(q);
                }
            }
            return found;
        }

        List<int[]> rows(int r, int m, int n) {
            List<int[]> rows = new ArrayList<>();
            if (isTold(r)) {
                addRows(r, 0, m, n, new int[rules.get(r).right.length()], rows);
            }
            return rows;
        }

        private void addRows(int r, int k, int at, int n, int[] ends, List<int[]> rows) {
            String right = rules.get(r).right;
            if (k == right.length()) {
                if (at == n) {
                    rows.add(ends.clone());
                }
                return;
            }
            for (int end = at; end <= n; end++) {
                boolean fits = isCapital(right.charAt(k))
                    ? !below(r, k, at, end).isEmpty()
                    : end == at + 1 && scene.text.charAt(at) == right.charAt(k);
                if (fits && (k < right.length() - 1 || end == n)) {
                    ends[k] = end;
                    addRows(r, k + 1, end, n, ends, rows);
                }
            }
        }

        boolean derives(char capital, int m, int n) {
            for (int r = 0; r < rules.size(); r++) {
                if (rules.get(r).left == capital && has[r][m][n]) {
                    return true;
                }
            }
            return false;
        }
    }

    private final Map<Object, Object> cache = new HashMap<>();
    private List<Rule> cacheRules;
    private Scene cacheScene;

    /** What was worked out holds as long as the rules and the scene are the same. */
    private Map<Object, Object> cached() {
        if (cacheRules != rules || cacheScene != scene) {
            cache.clear();
            cacheRules = rules;
            cacheScene = scene;
        }
        return cache;
    }

    private Object kept(Object key, Supplier<Object> make) {
        Object found = cached().get(key);
        if (found == null) {
            found = make.get();
            cached().put(key, found);
        }
        return found;
    }

    private Parse parse(boolean filtered) {
        return (Parse) kept("parse" + filtered, () -> new Parse(filtered));
    }

    int derives(int capital, int m, int n) {
        if (!isLeft(capital) || !isSpan(m, n)) {
            return -1;
        }
        return parse(false).derives(sign(capital), m, n) ? 1 : 0;
    }

    int ways(int rule, int m, int n) {
        return isRule(rule) && isSpan(m, n) ? parse(true).rows(rule, m, n).size() : -1;
    }

    int whole() {
        for (int n = scene.text.length(); n >= 0 && !rules.isEmpty(); n--) {
            if (parse(false).derives(rules.get(0).left, 0, n)) {
                return n;
            }
        }
        return rules.isEmpty() ? -1 : -2;
    }

    /** Trees by their depth, counted modulo a prime: endless, if there are ever deeper ones. */
    private boolean[][][] endless() {
        return (boolean[][][]) kept("endless", () -> {
            Parse parse = parse(true);
            int len = scene.text.length();
            int deep = 2 * rules.size() * (len + 1) + 2;
            long[][][] half = null;
            long[][][] counts = new long[rules.size()][len + 1][len + 1];
            for (int depth = 0; depth < 2 * deep; depth++) {
                if (depth == deep) {
                    half = counts;
                }
                counts = deeper(parse, counts);
            }
            boolean[][][] endless = new boolean[rules.size()][len + 1][len + 1];
            for (int r = 0; r < rules.size(); r++) {
                for (int i = 0; i <= len; i++) {
                    for (int j = i; j <= len; j++) {
                        endless[r][i][j] = counts[r][i][j] != half[r][i][j];
                    }
                }
            }
            return endless;
        });
    }

    private long[][][] deeper(Parse parse, long[][][] counts) {
        long prime = 2147483629L;
        int len = scene.text.length();
        long[][][] next = new long[rules.size()][len + 1][len + 1];
        for (int r = 0; r < rules.size(); r++) {
            String right = rules.get(r).right;
            for (int i = 0; i <= len; i++) {
                for (int j = i; j <= len; j++) {
                    for (int[] row : rowsCached(parse, r, i, j)) {
                        long product = 1;
                        int at = i;
                        for (int k = 0; k < row.length; k++) {
                            if (isCapital(right.charAt(k))) {
                                long sum = 0;
                                for (int q : belowCached(parse, r, k, at, row[k])) {
                                    sum += counts[q][at][row[k]];
                                }
                                product = product * (sum % prime) % prime;
                            }
                            at = row[k];
                        }
                        next[r][i][j] = (next[r][i][j] + product) % prime;
                    }
                }
            }
        }
        return next;
    }

    @SuppressWarnings("unchecked")
    private List<int[]> rowsCached(Parse parse, int r, int i, int j) {
        return (List<int[]>) kept(List.of(r, i, j), () -> parse.rows(r, i, j));
    }

    @SuppressWarnings("unchecked")
    private List<Integer> belowCached(Parse parse, int r, int k, int i, int j) {
        return (List<Integer>) kept(List.of(r, k, i, j), () -> parse.below(r, k, i, j));
    }

    int trees(int capital, int m, int n) {
        if (!isLeft(capital) || !isSpan(m, n)) {
            return -1;
        }
        BigInteger sum = BigInteger.ZERO;
        for (int r = 0; r < rules.size(); r++) {
            if (rules.get(r).left == sign(capital) && parse(true).has[r][m][n]) {
                if (endless()[r][m][n]) {
                    return -3;
                }
                sum = sum.add(exact(r, m, n));
            }
        }
        return sum.bitLength() > 31 ? -2 : sum.intValue();
    }

    private BigInteger exact(int r, int m, int n) {
        Object key = "exact " + r + " " + m + " " + n;
        if (cached().get(key) != null) {
            return (BigInteger) cached().get(key);
        }
        BigInteger all = BigInteger.ZERO;
        for (int[] row : parse(true).rows(r, m, n)) {
            BigInteger product = BigInteger.ONE;
            int at = m;
            for (int k = 0; k < row.length; k++) {
                if (isCapital(rules.get(r).right.charAt(k))) {
                    BigInteger sum = BigInteger.ZERO;
                    for (int q : parse(true).below(r, k, at, row[k])) {
                        sum = sum.add(exact(q, at, row[k]));
                    }
                    product = product.multiply(sum);
                }
                at = row[k];
            }
            all = all.add(product);
        }
        cached().put(key, all);
        return all;
    }

    /** Pieces as lists of rule, from, to. */
    @SuppressWarnings("unchecked")
    private Set<List<Integer>> pieces() {
        return (Set<List<Integer>>) kept("pieces", () -> {
            Parse parse = parse(true);
            Set<List<Integer>> pieces = new HashSet<>();
            ArrayDeque<List<Integer>> open = new ArrayDeque<>();
            for (int r = 0; r < rules.size(); r++) {
                if (rules.get(r).left == rules.get(0).left && parse.has[r][0][scene.text.length()]) {
                    open.add(List.of(r, 0, scene.text.length()));
                }
            }
            while (!open.isEmpty()) {
                List<Integer> piece = open.poll();
                if (pieces.add(piece)) {
                    int r = piece.get(0);
                    for (int[] row : parse.rows(r, piece.get(1), piece.get(2))) {
                        int at = piece.get(1);
                        for (int k = 0; k < row.length; k++) {
                            if (isCapital(rules.get(r).right.charAt(k))) {
                                for (int q : parse.below(r, k, at, row[k])) {
                                    open.add(List.of(q, at, row[k]));
                                }
                            }
                            at = row[k];
                        }
                    }
                }
            }
            return pieces;
        });
    }

    int piece(int rule, int m, int n) {
        if (!isRule(rule) || !isSpan(m, n)) {
            return -1;
        }
        return pieces().contains(List.of(rule, m, n)) ? 1 : 0;
    }

    int forest(int what) {
        if (rules.isEmpty() || what < 0 || what > 3) {
            return -1;
        }
        if (what == 0) {
            return pieces().size();
        }
        Map<List<Integer>, Integer> ways = new HashMap<>();
        for (List<Integer> piece : pieces()) {
            List<Integer> node = List.of((int) rules.get(piece.get(0)).left, piece.get(1), piece.get(2));
            ways.merge(node, ways(piece.get(0), piece.get(1), piece.get(2)), Integer::sum);
        }
        int ambiguous = 0;
        int narrow = -2;
        for (Map.Entry<List<Integer>, Integer> entry : ways.entrySet()) {
            if (entry.getValue() > 1) {
                ambiguous++;
                int length = entry.getKey().get(2) - entry.getKey().get(1);
                narrow = narrow == -2 ? length : Math.min(narrow, length);
            }
        }
        return what == 1 ? ways.size() : what == 2 ? ambiguous : narrow;
    }

    // ---- the smallest tree, as an object

    private record Tree(long size, int rule, int from, int to, int[] ends, List<Tree> below) { }

    private static final Comparator<Tree> CHOICE = new Comparator<Tree>() {
        @Override
        public int compare(Tree a, Tree b) {
            if (a == b) {
                return 0;
            }
            int order = Long.compare(a.size, b.size);
            order = order != 0 ? order : Integer.compare(a.rule, b.rule);
            order = order != 0 ? order : Arrays.compare(a.ends, b.ends);
            for (int k = 0; k < a.below.size() && order == 0; k++) {
                order = compare(a.below.get(k), b.below.get(k));
            }
            return order;
        }
    };

    private Tree smallestTree() {
        Object[] found = (Object[]) kept("smallest", () -> {
            Parse parse = parse(true);
            int len = scene.text.length();
            Tree[][][] best = new Tree[rules.size()][len + 1][len + 1];
            boolean changed = true;
            while (changed) {
                changed = false;
                for (int r = 0; r < rules.size(); r++) {
                    for (int i = 0; i <= len; i++) {
                        for (int j = i; j <= len; j++) {
                            for (int[] row : rowsCached(parse, r, i, j)) {
                                Tree tree = treeBy(parse, best, r, i, j, row);
                                if (tree != null && (best[r][i][j] == null || CHOICE.compare(tree, best[r][i][j]) < 0)) {
                                    best[r][i][j] = tree;
                                    changed = true;
                                }
                            }
                        }
                    }
                }
            }
            Tree first = null;
            for (int r = 0; r < rules.size(); r++) {
                Tree tree = best[r][0][len];
                if (rules.get(r).left == rules.get(0).left && tree != null
                    && (first == null || CHOICE.compare(tree, first) < 0)) {
                    first = tree;
                }
            }
            return new Object[] {first};
        });
        return (Tree) found[0];
    }

    private Tree treeBy(Parse parse, Tree[][][] best, int r, int m, int n, int[] row) {
        List<Tree> below = new ArrayList<>();
        long size = 1;
        int at = m;
        for (int k = 0; k < row.length; k++) {
            if (isCapital(rules.get(r).right.charAt(k))) {
                Tree least = null;
                for (int q : belowCached(parse, r, k, at, row[k])) {
                    Tree tree = best[q][at][row[k]];
                    if (tree != null && (least == null || CHOICE.compare(tree, least) < 0)) {
                        least = tree;
                    }
                }
                if (least == null) {
                    return null;
                }
                size += least.size;
                below.add(least);
            }
            at = row[k];
        }
        return new Tree(size, r, m, n, row, below);
    }

    int smallest() {
        if (rules.isEmpty()) {
            return -1;
        }
        return smallestTree() == null ? -2 : (int) smallestTree().size;
    }

    int tree(int k, int what) {
        if (rules.isEmpty() || smallestTree() == null || k < 0 || k >= smallestTree().size || what < 0 || what > 2) {
            return -1;
        }
        ArrayDeque<Tree> stack = new ArrayDeque<>(List.of(smallestTree()));
        for (int passed = 0; passed < k; passed++) {
            Tree tree = stack.pop();
            for (int place = tree.below.size() - 1; place >= 0; place--) {
                stack.push(tree.below.get(place));
            }
        }
        Tree tree = stack.pop();
        return what == 0 ? tree.rule : what == 1 ? tree.from : tree.to;
    }

    // ---- levels

    /** Of each state and level that is alive: how many links lead from it. */
    @SuppressWarnings("unchecked")
    private Map<List<Integer>, Integer> stack() {
        return (Map<List<Integer>, Integer>) kept("stack", () -> {
            Map<List<Integer>, Integer> links = new HashMap<>();
            ArrayDeque<List<Integer>> open = new ArrayDeque<>();
            links.put(List.of(0, 0), 0);
            open.add(List.of(0, 0));
            while (!open.isEmpty()) {
                List<Integer> from = open.poll();
                int m = from.get(0);
                for (int s = 0; s < 52; s++) {
                    int target = goes(from.get(1), s);
                    for (int n = m; n <= scene.text.length() && target >= 0; n++) {
                        boolean fits = s < 26 ? n == m + 1 && letter(m) == s : derives(s, m, n) == 1;
                        if (fits) {
                            List<Integer> to = List.of(n, target);
                            if (!links.containsKey(to)) {
                                open.add(to);
                            }
                            links.merge(to, 1, Integer::sum);
                        }
                    }
                }
            }
            return links;
        });
    }

    private boolean isLevel(int level) {
        return !rules.isEmpty() && level >= 0 && level <= scene.text.length();
    }

    int alive(int level, int state) {
        if (!isLevel(level) || state != -1 && !isState(state)) {
            return -1;
        }
        int many = 0;
        for (List<Integer> at : stack().keySet()) {
            many += at.get(0) == level && (state == -1 || at.get(1) == state) ? 1 : 0;
        }
        return many;
    }

    int links(int level, int state) {
        if (!isLevel(level) || state != -1 && !isState(state)) {
            return -1;
        }
        int many = 0;
        for (Map.Entry<List<Integer>, Integer> at : stack().entrySet()) {
            many += at.getKey().get(0) == level && (state == -1 || at.getKey().get(1) == state) ? at.getValue() : 0;
        }
        return many;
    }

    int expects(int level) {
        if (!isLevel(level)) {
            return -1;
        }
        int bits = 0;
        for (List<Integer> at : stack().keySet()) {
            for (int s = 0; s < 26 && at.get(0) == level; s++) {
                bits |= goes(at.get(1), s) >= 0 ? 1 << s : 0;
            }
        }
        return bits;
    }

    // ---- mending: all sentences up to a length, and how far the text is from each

    private List<Rule> sentencesRules;
    private Set<Integer> sentencesStruck;
    private Set<String> sentences;
    private static final int SENTENCE = 5;

    private static Set<String> joined(Set<String> heads, Set<String> tails) {
        Set<String> all = new HashSet<>();
        for (String head : heads) {
            for (String tail : tails) {
                if (head.length() + tail.length() <= SENTENCE) {
                    all.add(head + tail);
                }
            }
        }
        return all;
    }

    private Set<String> sentences() {
        if (sentencesRules == rules && scene.struck.equals(sentencesStruck)) {
            return sentences;
        }
        Map<Character, Set<String>> of = new TreeMap<>();
        for (char c : lefts()) {
            of.put(c, new HashSet<>());
        }
        boolean changed = true;
        while (changed) {
            changed = false;
            for (int r = 0; r < rules.size(); r++) {
                if (isTold(r)) {
                    Set<String> made = Set.of("");
                    for (char c : rules.get(r).right.toCharArray()) {
                        made = joined(made, isCapital(c) ? of.get(c) : Set.of("" + c));
                    }
                    changed |= of.get(rules.get(r).left).addAll(made);
                }
            }
        }
        sentencesRules = rules;
        sentencesStruck = scene.struck;
        sentences = of.get(rules.get(0).left);
        return sentences;
    }

    private static int distance(String a, String b) {
        int[][] d = new int[a.length() + 1][b.length() + 1];
        for (int i = 0; i <= a.length(); i++) {
            for (int j = 0; j <= b.length(); j++) {
                if (i == 0 || j == 0) {
                    d[i][j] = i + j;
                } else {
                    int same = a.charAt(i - 1) == b.charAt(j - 1) ? 0 : 1;
                    d[i][j] = Math.min(d[i - 1][j - 1] + same, 1 + Math.min(d[i - 1][j], d[i][j - 1]));
                }
            }
        }
        return d[a.length()][b.length()];
    }

    int mend() {
        if (rules.isEmpty()) {
            return -1;
        }
        if (shortest(number(rules.get(0).left)) == -2) {
            return -2;
        }
        int best = UNKNOWN;
        for (String sentence : sentences()) {
            int distance = distance(scene.text, sentence);
            best = best == UNKNOWN ? distance : Math.min(best, distance);
        }
        // A longer sentence would be at least so far away.
        return best <= SENTENCE + 1 - scene.text.length() ? best : UNKNOWN;
    }

    // ---- draws, counts, images

    int seed(int number) {
        if (number < 0) {
            return -1;
        }
        int old = (int) x;
        x = number;
        return old;
    }

    int spoken(int t, int what) {
        if (rules.isEmpty() || t < 1 || t > 10 || what < -1 || what > 23) {
            return -3;
        }
        BigInteger draw = BigInteger.valueOf(x);
        String row = null;
        for (int time = 0; time < t; time++) {
            row = "" + rules.get(0).left;
            int replaced = 0;
            while (row != null && row.chars().anyMatch(c -> isCapital((char) c))) {
                int p = 0;
                while (!isCapital(row.charAt(p))) {
                    p++;
                }
                List<String> rights = rightsOf(row.charAt(p));
                if (rights.isEmpty() || replaced == 30) {
                    row = null;
                    break;
                }
                draw = draw.multiply(BigInteger.valueOf(1103515245)).add(BigInteger.valueOf(12345))
                    .mod(BigInteger.valueOf(2147483648L));
                int pick = draw.divide(BigInteger.valueOf(65536)).intValue() % rights.size();
                row = row.substring(0, p) + rights.get(pick) + row.substring(p + 1);
                replaced++;
                if (row.length() > 24) {
                    row = null;
                }
            }
        }
        if (row == null) {
            return -2;
        }
        return what == -1 ? row.length() : what < row.length() ? number(row.charAt(what)) : -1;
    }

    int count(int what) {
        int struck = 0;
        for (int r : scene.struck) {
            struck |= 1 << r;
        }
        int filters = 0;
        for (int f : scene.filters) {
            filters |= 1 << f;
        }
        int[] answers = {
            rules.size(), rules.isEmpty() ? -1 : number(rules.get(0).left), scene.text.length(), struck,
            scene.bans.size(), filters, past.size(), (int) x, tape.length(),
        };
        return what < 0 || what >= answers.length ? -1 : answers[what];
    }

    int image(int k) {
        if (k < 0 || k > 3) {
            return -1;
        }
        images[k] = new Image(rules, scene, new ArrayList<>(past), x);
        return scene.text.length();
    }

    int back(int k) {
        if (k < 0 || k > 3 || images[k] == null) {
            return -1;
        }
        rules = images[k].rules;
        scene = images[k].scene;
        past = new ArrayList<>(images[k].past);
        x = images[k].x;
        return scene.text.length();
    }
}
