import java.util.Random;

/**
 * Drawn grammars, each with a sentence that it derives and some acts: every question is asked at
 * every place, and PackedForest must answer what Naive answers.
 */
public final class SweepTest {
    private final Random random;
    private final PackedForest forest = new PackedForest();
    private final Naive naive = new Naive();
    private final StringBuilder told = new StringBuilder();
    private final int longest;
    private boolean right = true;
    private int asked;

    private SweepTest(long seed, int longest) {
        this.random = new Random(seed);
        this.longest = longest;
    }

    /** Grammars and sentences as large as there can be: 12 rules, 4 places, 90 states, 12 smalls. */
    private static final String[][] LARGEST = {
        {"S=aS;A=bB;B=baC;C=babC;A=bbbB;C=aA;B=abbC;C=bbS;C=bC;S=bbbB;B=bbbB;S=abb", "bbbbabbabbba"},
        {"S=baC;A=aB;B=baS;C=abA;S=aabC;A=baaA;A=aA;C=bbba;S=aaaA;S=abbS;A=bS;B=aA", "aabbbbaaaaab"},
        {"S=aSbS:9!;S=SabS:8<;S=SSab:7>;S=abSS:6<;S=aabb:5;S=bbaa:4;S=aSSb:3!;S=bSSa:2;S=ab:1;S=ba:9;S=abab;S=baba", "abababbaabab"},
        {"A=BCDE;B=AAAA;C=aaaa;D=bbbb;E=cccc;A=abcd;B=;C=a;D=b;E=c;A=a;B=bcde", "abcdbcdeabca"},
        {"Z=zZyY;Y=yYzZ;Z=z;Y=y;Z=zyzy;Y=yzyz;Z=YYYY;Y=ZZZZ;X=XX;X=x;W=w;W=WXYZ", "zyzyzyzyzyzy"},
    };

    public static void main(String[] args) {
        long seed = args.length > 0 ? Long.parseLong(args[0]) : 1;
        int sweeps = args.length > 1 ? Integer.parseInt(args[1]) : 400;
        long asked = 0;
        for (String[] largest : LARGEST) {
            SweepTest test = new SweepTest(seed, 12);
            test.sweepOver(largest[0], largest[1]);
            asked += test.asked;
            if (!test.right) {
                System.out.println(largest[0]);
                System.exit(1);
            }
        }
        for (int k = 0; k < sweeps; k++) {
            SweepTest test = new SweepTest(seed * 7000003L + k, k % 10 == 0 ? 12 : k % 3 == 0 ? 7 : 5);
            test.sweep();
            asked += test.asked;
            if (!test.right) {
                System.out.println("seed " + seed + ", sweep " + k);
                System.exit(1);
            }
        }
        System.out.println(asked + " answers of " + sweeps + " sweeps are as due");
    }

    private void same(String call, int got, int want) {
        asked++;
        if (right && got != want && want != Naive.UNKNOWN) {
            right = false;
            System.out.println(told);
            System.out.println(call + " answered " + got + ", due is " + want);
        }
    }

    private char pick(String letters) {
        return letters.charAt(random.nextInt(letters.length()));
    }

    private String grammarText() {
        String capitals = "SABCD".substring(0, 1 + random.nextInt(5));
        String smalls = random.nextInt(3) == 0 ? "abc" : random.nextInt(3) == 0 ? "a" : "ab";
        int rules = Math.min(12, capitals.length() + random.nextInt(longest == 12 ? 3 : 9));
        int capitalShare = 3 + random.nextInt(6);
        boolean ranked = random.nextInt(3) != 0;
        StringBuilder text = new StringBuilder();
        for (int r = 0; r < rules; r++) {
            boolean leaf = r < capitals.length() && random.nextInt(4) != 0;
            text.append(r == 0 ? "" : ";").append(r < capitals.length() ? capitals.charAt(r) : pick(capitals)).append('=');
            int size = leaf ? random.nextInt(2) : random.nextInt(longest == 12 ? 3 : 5);
            for (int k = 0; k < size; k++) {
                text.append(!leaf && random.nextInt(10) < capitalShare ? pick(capitals) : pick(smalls));
            }
            if (ranked && random.nextInt(3) != 0) {
                text.append(':').append(pick("123"));
                text.append(random.nextBoolean() ? "" : "" + pick("<>!"));
            }
        }
        return text.toString();
    }

    private void tell(String text) {
        told.append("// ").append(text).append('\n');
        for (int at = 0; at < text.length(); at += 20) {
            int[] n = new int[5];
            for (int k = 0; k < 20; k++) {
                n[k / 4] = n[k / 4] << 8 | (at + k < text.length() ? text.charAt(at + k) : 0);
            }
            same("feed", forest.feed(n[0], n[1], n[2], n[3], n[4]), naive.feed(n[0], n[1], n[2], n[3], n[4]));
        }
        same("end", forest.end(text.length()), naive.end(text.length()));
        same("grammar", forest.grammar(), naive.grammar());
    }

    private void readSentence() {
        for (int tries = 0; tries < 12; tries++) {
            int x = random.nextInt(Integer.MAX_VALUE);
            same("seed", forest.seed(x), naive.seed(x));
            for (int t = 1; t <= 10; t++) {
                int length = forest.spoken(t, -1);
                same("spoken", length, naive.spoken(t, -1));
                boolean rich = length >= longest - 2 || tries == 11 && length > 0;
                if (rich && length <= longest) {
                    for (int k = 0; k < length; k++) {
                        int small = forest.spoken(t, k);
                        same("spoken", small, naive.spoken(t, k));
                        told.append("read ").append((char) ('a' + small)).append('\n');
                        same("read", forest.read(small), naive.read(small));
                    }
                    return;
                }
            }
        }
    }

    private void act() {
        int r = random.nextInt(Math.max(1, forest.count(0)));
        int k = random.nextInt(4);
        int q = random.nextInt(Math.max(1, forest.count(0)));
        switch (random.nextInt(8)) {
            case 0 -> {
                told.append("filter(").append(k).append(")\n");
                same("filter", forest.filter(k), naive.filter(k));
            }
            case 1 -> {
                told.append("strike(").append(r).append(")\n");
                same("strike", forest.strike(r), naive.strike(r));
            }
            case 2 -> {
                told.append("undo()\n");
                same("undo", forest.undo(), naive.undo());
            }
            case 3 -> {
                int small = random.nextInt(2);
                told.append("change(").append(r).append(", ").append(small).append(")\n");
                same("change", forest.change(r, small), naive.change(r, small));
            }
            default -> {
                told.append("ban(").append(r).append(", ").append(k).append(", ").append(q).append(")\n");
                same("ban", forest.ban(r, k, q), naive.ban(r, k, q));
            }
        }
    }

    private void sweepOver(String grammar, String text) {
        tell(grammar);
        same("count(0)", forest.count(0), 12);
        for (char c : text.toCharArray()) {
            same("read", forest.read(c - 'a'), naive.read(c - 'a'));
        }
        same("count(2)", forest.count(2), 12);
        askGrammar();
        askText();
    }

    private void sweep() {
        tell(grammarText());
        if (forest.count(0) == 0) {
            return;
        }
        askGrammar();
        readSentence();
        askText();
        for (int round = 0; round < 3 && right; round++) {
            for (int k = random.nextInt(6); k >= 0; k--) {
                act();
            }
            askText();
        }
        askGrammar();
    }

    private void askGrammar() {
        for (int what = -1; what <= 6; what++) {
            same("facts(" + what + ")", forest.facts(what), naive.facts(what));
        }
        for (int c = 25; c <= 52; c++) {
            same("firsts(" + c + ")", forest.firsts(c), naive.firsts(c));
            same("follows(" + c + ")", forest.follows(c), naive.follows(c));
            same("shortest(" + c + ")", forest.shortest(c), naive.shortest(c));
        }
        same("states()", forest.states(), naive.states());
        for (int state = -1; state <= naive.states(); state++) {
            for (int symbol = -1; symbol <= 52; symbol++) {
                same("goes(" + state + ", " + symbol + ")", forest.goes(state, symbol), naive.goes(state, symbol));
            }
            for (int rule = -1; rule <= naive.count(0); rule++) {
                same("points(" + state + ", " + rule + ")", forest.points(state, rule), naive.points(state, rule));
            }
            same("done(" + state + ")", forest.done(state), naive.done(state));
        }
        same("clashes()", forest.clashes(), naive.clashes());
    }

    private void askText() {
        int length = naive.count(2);
        for (int level = -1; level <= length + 1; level++) {
            for (int state = -2; state <= naive.states(); state++) {
                same("alive(" + level + ", " + state + ")", forest.alive(level, state), naive.alive(level, state));
                same("links(" + level + ", " + state + ")", forest.links(level, state), naive.links(level, state));
            }
            same("expects(" + level + ")", forest.expects(level), naive.expects(level));
            same("letter(" + level + ")", forest.letter(level), naive.letter(level));
        }
        for (int m = -1; m <= length + 1; m++) {
            for (int n = -1; n <= length + 1; n++) {
                askSpan(m, n);
            }
        }
        for (int what = -1; what <= 4; what++) {
            same("forest(" + what + ")", forest.forest(what), naive.forest(what));
        }
        same("smallest()", forest.smallest(), naive.smallest());
        for (int k = -1; k <= Math.min(300, naive.smallest()); k++) {
            for (int what = -1; what <= 3; what++) {
                same("tree(" + k + ", " + what + ")", forest.tree(k, what), naive.tree(k, what));
            }
        }
        same("whole()", forest.whole(), naive.whole());
        same("mend()", forest.mend(), naive.mend());
    }

    private void askSpan(int m, int n) {
        for (char c : "SABCDEZYXW".toCharArray()) {
            int capital = c - 'A' + 26;
            String args = "(" + capital + ", " + m + ", " + n + ")";
            same("derives" + args, forest.derives(capital, m, n), naive.derives(capital, m, n));
            same("trees" + args, forest.trees(capital, m, n), naive.trees(capital, m, n));
        }
        for (int rule = -1; rule <= naive.count(0); rule++) {
            String args = "(" + rule + ", " + m + ", " + n + ")";
            same("piece" + args, forest.piece(rule, m, n), naive.piece(rule, m, n));
            same("ways" + args, forest.ways(rule, m, n), naive.ways(rule, m, n));
        }
    }
}
