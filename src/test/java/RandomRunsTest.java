import java.util.ArrayList;
import java.util.List;
import java.util.Random;

/**
 * Runs of drawn calls on drawn grammars: PackedForest must answer what Naive answers. The draws
 * are seeded, so that every run is the same; a seed and a number of runs can be told.
 */
public final class RandomRunsTest {
    private static final int CALLS = 512;

    private final Random random;
    private final PackedForest forest = new PackedForest();
    private final Naive naive = new Naive();
    private final List<String> told = new ArrayList<>();
    private final int longest;
    private String capitals = "S";
    private String smalls = "a";

    private RandomRunsTest(long seed, int longest) {
        this.random = new Random(seed);
        this.longest = longest;
    }

    public static void main(String[] args) {
        long seed = args.length > 0 ? Long.parseLong(args[0]) : 1;
        int runs = args.length > 1 ? Integer.parseInt(args[1]) : 120;
        for (int run = 0; run < runs; run++) {
            int longest = run % 6 == 0 ? 12 : run % 3 == 0 ? 7 : 4;
            RandomRunsTest test = new RandomRunsTest(seed * 1000003L + run, longest);
            if (!test.run()) {
                System.out.println("seed " + seed + ", run " + run);
                System.exit(1);
            }
        }
        System.out.println(runs + " drawn runs are as due");
    }

    private boolean run() {
        int calls = 0;
        while (calls < CALLS) {
            int kind = random.nextInt(1000);
            boolean right;
            if (calls == 0 || kind < 12) {
                String text = random.nextInt(8) == 0 ? spoiled(grammarText()) : grammarText();
                right = tell(text);
                calls += 20;
            } else {
                right = call();
                calls++;
            }
            if (!right) {
                return false;
            }
        }
        return true;
    }

    private boolean same(String call, int got, int want) {
        told.add(call + " -> " + got);
        if (got == want || want == Naive.UNKNOWN) {
            return true;
        }
        for (String line : told) {
            System.out.println("  " + line);
        }
        System.out.println("due is " + want);
        return false;
    }

    // ---- grammars

    private char pick(String letters) {
        return letters.charAt(random.nextInt(letters.length()));
    }

    /** Rules whose one capital is their last symbol: such ones have states by the dozen. */
    private String wideGrammarText() {
        capitals = "SABCD".substring(0, 2 + random.nextInt(3));
        smalls = "ab";
        StringBuilder text = new StringBuilder();
        for (int r = 0; r < 12; r++) {
            text.append(r == 0 ? "" : ";").append(r < capitals.length() ? capitals.charAt(r) : pick(capitals)).append('=');
            for (int k = random.nextInt(3); k >= 0; k--) {
                text.append(pick(smalls));
            }
            text.append(random.nextInt(6) == 0 ? "" : "" + pick(capitals));
        }
        return text.toString();
    }

    private String grammarText() {
        if (longest != 12 && random.nextInt(12) == 0) {
            return wideGrammarText();
        }
        capitals = "SABCDEZ".substring(0, 1 + random.nextInt(random.nextInt(40) == 0 ? 7 : 5));
        smalls = random.nextInt(3) == 0 ? "abz" : "ab";
        int mostRules = longest == 12 ? 4 : random.nextInt(40) == 0 ? 13 : 12;
        int rules = 1 + random.nextInt(mostRules);
        boolean ending = random.nextInt(4) != 0;
        boolean ranked = random.nextBoolean();
        int capitalShare = 2 + random.nextInt(6);
        StringBuilder text = new StringBuilder();
        for (int r = 0; r < rules; r++) {
            char left = r < capitals.length() && random.nextInt(8) != 0 ? capitals.charAt(r) : pick(capitals);
            text.append(r == 0 ? "" : ";").append(left).append('=');
            int size = random.nextInt(random.nextInt(60) == 0 ? 6 : 5);
            size = random.nextInt(3) == 0 || longest == 12 ? Math.min(size, 2) : size;
            boolean leaf = ending && r < capitals.length();
            for (int k = 0; k < (leaf ? Math.min(size, 1) : size); k++) {
                text.append(!leaf && random.nextInt(10) < capitalShare ? pick(capitals) : pick(smalls));
            }
            if (ranked && random.nextInt(3) != 0) {
                text.append(':').append(pick("1239"));
                if (random.nextBoolean()) {
                    text.append(pick("<>!"));
                }
            }
        }
        return random.nextInt(10) == 0 ? blanked(text.toString()) : text.toString();
    }

    private String blanked(String text) {
        StringBuilder wide = new StringBuilder();
        for (char c : text.toCharArray()) {
            wide.append(c);
            if (random.nextInt(4) == 0) {
                wide.append("   ".substring(random.nextInt(3)));
            }
        }
        return wide.toString();
    }

    private String spoiled(String text) {
        StringBuilder other = new StringBuilder(text);
        for (int k = random.nextInt(3); k >= 0 && other.length() > 0; k--) {
            int place = random.nextInt(other.length());
            char sign = pick("ASQaz;:=<>!019 \0@[`{\u00ff\u00e9");
            switch (random.nextInt(4)) {
                case 0 -> other.deleteCharAt(place);
                case 1 -> other.insert(place, sign);
                case 2 -> other.setLength(place);
                default -> other.setCharAt(place, sign);
            }
        }
        return other.toString();
    }

    private boolean tell(String text) {
        String bytes = text.length() > 400 ? text.substring(0, 400) : text;
        boolean right = same("end(0)", forest.end(0), naive.end(0));
        for (int at = 0; at < bytes.length() && right; at += 20) {
            int[] n = new int[5];
            for (int k = 0; k < 20; k++) {
                n[k / 4] = n[k / 4] << 8 | (at + k < bytes.length() ? bytes.charAt(at + k) : 0);
            }
            right = same("feed(" + n[0] + ", " + n[1] + ", " + n[2] + ", " + n[3] + ", " + n[4] + ")",
                forest.feed(n[0], n[1], n[2], n[3], n[4]), naive.feed(n[0], n[1], n[2], n[3], n[4]));
        }
        told.add("// " + bytes);
        return right && same("end(" + bytes.length() + ")", forest.end(bytes.length()), naive.end(bytes.length()))
            && same("grammar()", forest.grammar(), naive.grammar());
    }

    // ---- calls

    /** Mostly from 0 to a bound, now and then beside it. */
    private int upTo(int bound) {
        int kind = random.nextInt(25);
        if (kind == 0) {
            return random.nextBoolean() ? Integer.MAX_VALUE : Integer.MIN_VALUE;
        }
        return kind == 1 ? -1 - random.nextInt(3) : random.nextInt(Math.max(bound, 0) + 2);
    }

    private int aCapital() {
        return random.nextInt(12) == 0 ? upTo(52) : pick(capitals) - 'A' + 26;
    }

    private int aSmall() {
        return random.nextInt(15) == 0 ? upTo(26) : pick(smalls) - 'a';
    }

    private int aRule() {
        return upTo(forest.count(0) - 1);
    }

    private int aState() {
        return random.nextInt(5) == 0 ? -1 : upTo(forest.states() - 1);
    }

    private int aPlace() {
        return upTo(forest.count(2));
    }

    private boolean call() {
        int kind = random.nextInt(100);
        if (kind < 14 && forest.count(2) < longest || kind < 2 && forest.count(2) < 6) {
            int small = aSmall();
            return same("read(" + small + ")", forest.read(small), naive.read(small));
        }
        if (kind < 18) {
            return readSentence();
        }
        if (kind < 35) {
            return callAct();
        }
        if (kind < 60) {
            return callFact();
        }
        return kind < 90 ? callTree() : callRest();
    }

    /** In place of the text a sentence that can be derived comes, if it is not too long. */
    private boolean readSentence() {
        int t = 1 + random.nextInt(10);
        int length = forest.spoken(t, -1);
        boolean right = same("spoken(" + t + ", -1)", length, naive.spoken(t, -1));
        if (length <= 0 || length > longest) {
            return right;
        }
        while (right && forest.count(2) > 0) {
            right = same("drop()", forest.drop(), naive.drop());
        }
        for (int k = 0; k < length && right; k++) {
            int small = forest.spoken(t, k);
            right = same("spoken(" + t + ", " + k + ")", small, naive.spoken(t, k))
                && same("read(" + small + ")", forest.read(small), naive.read(small));
        }
        return right;
    }

    private boolean banSomewhere() {
        int r = aRule();
        int k = random.nextInt(4);
        int q = aRule();
        for (int tries = 0; tries < 30 && forest.symbol(r, k) != forest.rule(q, 0); tries++) {
            r = aRule();
            k = random.nextInt(4);
            q = aRule();
        }
        return same("ban(" + r + ", " + k + ", " + q + ")", forest.ban(r, k, q), naive.ban(r, k, q));
    }

    private boolean callAct() {
        int a = aPlace();
        int b = aSmall();
        int r = aRule();
        int q = aRule();
        int k = upTo(3);
        switch (random.nextInt(12)) {
            case 0: return same("drop()", forest.drop(), naive.drop());
            case 1: case 2: return same("change(" + a + ", " + b + ")", forest.change(a, b), naive.change(a, b));
            case 3: return same("strike(" + r + ")", forest.strike(r), naive.strike(r));
            case 4: return same("ban(" + r + ", " + k + ", " + q + ")", forest.ban(r, k, q), naive.ban(r, k, q));
            case 5: case 6: case 7: return banSomewhere();
            case 8: return same("filter(" + k + ")", forest.filter(k), naive.filter(k));
            case 9: case 10: return same("undo()", forest.undo(), naive.undo());
            default:
                return random.nextBoolean()
                    ? same("image(" + k + ")", forest.image(k), naive.image(k))
                    : same("back(" + k + ")", forest.back(k), naive.back(k));
        }
    }

    private boolean callFact() {
        int c = aCapital();
        int s = aState();
        int r = aRule();
        int w = upTo(5);
        int x = random.nextBoolean() ? aCapital() : aSmall();
        switch (random.nextInt(12)) {
            case 0: return same("rule(" + r + ", " + w + ")", forest.rule(r, w), naive.rule(r, w));
            case 1: return same("symbol(" + r + ", " + w + ")", forest.symbol(r, w), naive.symbol(r, w));
            case 2: case 3: return same("facts(" + w + ")", forest.facts(w), naive.facts(w));
            case 4: return same("firsts(" + c + ")", forest.firsts(c), naive.firsts(c));
            case 5: return same("follows(" + c + ")", forest.follows(c), naive.follows(c));
            case 6: return same("shortest(" + c + ")", forest.shortest(c), naive.shortest(c));
            case 7: return same("states()", forest.states(), naive.states());
            case 8: return same("goes(" + s + ", " + x + ")", forest.goes(s, x), naive.goes(s, x));
            case 9: return same("points(" + s + ", " + r + ")", forest.points(s, r), naive.points(s, r));
            case 10: return same("done(" + s + ")", forest.done(s), naive.done(s));
            default: return same("clashes()", forest.clashes(), naive.clashes());
        }
    }

    private boolean callTree() {
        int c = aCapital();
        int s = aState();
        int r = aRule();
        int m = aPlace();
        int n = random.nextInt(3) == 0 ? forest.count(2) : aPlace();
        if (m > n && random.nextInt(10) != 0) {
            int other = m;
            m = n;
            n = other;
        }
        if (random.nextInt(4) == 0) {
            m = 0;
        }
        int w = upTo(3);
        int k = upTo(Math.min(forest.smallest(), 2000) - 1);
        switch (random.nextInt(14)) {
            case 0: return same("alive(" + m + ", " + s + ")", forest.alive(m, s), naive.alive(m, s));
            case 1: return same("links(" + m + ", " + s + ")", forest.links(m, s), naive.links(m, s));
            case 2: return same("expects(" + m + ")", forest.expects(m), naive.expects(m));
            case 3: return same("derives(" + c + ", " + m + ", " + n + ")", forest.derives(c, m, n), naive.derives(c, m, n));
            case 4: case 5: return same("trees(" + c + ", " + m + ", " + n + ")", forest.trees(c, m, n), naive.trees(c, m, n));
            case 6: return same("piece(" + r + ", " + m + ", " + n + ")", forest.piece(r, m, n), naive.piece(r, m, n));
            case 7: return same("ways(" + r + ", " + m + ", " + n + ")", forest.ways(r, m, n), naive.ways(r, m, n));
            case 8: return same("forest(" + w + ")", forest.forest(w), naive.forest(w));
            case 9: return same("smallest()", forest.smallest(), naive.smallest());
            case 10: case 11: return same("tree(" + k + ", " + w + ")", forest.tree(k, w), naive.tree(k, w));
            case 12: return same("whole()", forest.whole(), naive.whole());
            default: return same("mend()", forest.mend(), naive.mend());
        }
    }

    private boolean callRest() {
        int w = upTo(9);
        int t = upTo(10);
        int what = random.nextInt(3) == 0 ? upTo(23) : -1 + random.nextInt(5);
        int x = random.nextInt(6) == 0 ? -random.nextInt(3) : random.nextInt(Integer.MAX_VALUE);
        switch (random.nextInt(6)) {
            case 0: return same("letter(" + w + ")", forest.letter(w), naive.letter(w));
            case 1: return same("seed(" + x + ")", forest.seed(x), naive.seed(x));
            case 2: case 3: return same("spoken(" + t + ", " + what + ")", forest.spoken(t, what), naive.spoken(t, what));
            case 4: return same("count(" + w + ")", forest.count(w), naive.count(w));
            default:
                return random.nextInt(10) == 0
                    ? same("feed(1, 2, 3, 4, 5)", forest.feed(1, 2, 3, 4, 5), naive.feed(1, 2, 3, 4, 5))
                    : same("end(" + w + ")", forest.end(w), naive.end(w));
        }
    }
}
