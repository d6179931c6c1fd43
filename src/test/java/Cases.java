import java.util.ArrayList;
import java.util.List;

/**
 * Boundary cases. Each is a sentence of the document (or a part of one) with the calls that would
 * answer otherwise if that sentence were broken.
 */
final class Cases {
    static final int NONE = -1;
    static final int MIN = Integer.MIN_VALUE;
    static final int MAX = Integer.MAX_VALUE;
    static final int END = 1 << 26;
    static final int PROMISES = 40;

    /** The calls of a case. */
    interface Calls {
        void make();
    }

    private record Case(int promise, String sentence, Calls calls) { }

    private static final List<Case> ALL = new ArrayList<>();
    private static Case running;
    private static int asked;
    private static int wrong;

    private Cases() { }

    static void add(int promise, String sentence, Calls calls) {
        ALL.add(new Case(promise, sentence, calls));
    }

    /** How many cases don't hold, or ask nothing, and how many promises have none. */
    static int run() {
        int failed = 0;
        int[] casesOf = new int[PROMISES + 1];
        for (Case one : ALL) {
            running = one;
            asked = 0;
            wrong = 0;
            try {
                one.calls.make();
            } catch (RuntimeException thrown) {
                tell("threw " + thrown);
            }
            if (asked == 0) {
                tell("asks nothing");
            }
            failed += wrong == 0 ? 0 : 1;
            casesOf[one.promise]++;
        }
        for (int promise = 1; promise <= PROMISES; promise++) {
            if (casesOf[promise] == 0) {
                System.out.println("promise " + promise + " has no boundary case");
                failed++;
            }
        }
        System.out.println(ALL.size() + " boundary cases, " + failed + " of them wrong");
        return failed;
    }

    private static void tell(String what) {
        wrong++;
        System.out.println("promise " + running.promise + " (" + running.sentence + "): " + what);
    }

    static void due(String call, int got, int want) {
        asked++;
        if (got != want) {
            tell(call + " answered " + got + ", due is " + want);
        }
    }

    // ---- objects

    static void feed(PackedForest f, String bytes) {
        for (int at = 0; at < bytes.length(); at += 20) {
            int[] n = new int[5];
            for (int k = 0; k < 20; k++) {
                n[k / 4] = n[k / 4] << 8 | (at + k < bytes.length() ? bytes.charAt(at + k) & 255 : 0);
            }
            f.feed(n[0], n[1], n[2], n[3], n[4]);
        }
        f.end(bytes.length());
    }

    /** The tape alone, whatever was on it before. */
    static int tell(PackedForest f, String grammar) {
        f.end(0);
        feed(f, grammar);
        return f.grammar();
    }

    static PackedForest of(String grammar) {
        PackedForest f = new PackedForest();
        int rules = tell(f, grammar);
        if (rules != grammar.split(";", -1).length) {
            tell("grammar() of " + grammar + " answered " + rules);
        }
        return f;
    }

    static PackedForest of(String grammar, String text) {
        PackedForest f = of(grammar);
        read(f, text);
        return f;
    }

    static void read(PackedForest f, String text) {
        for (char c : text.toCharArray()) {
            f.read(letter(c));
        }
    }

    // ---- letters

    static int letter(char c) {
        return c >= 'a' ? c - 'a' : c - 'A' + 26;
    }

    /** A set of letters as bits, $ being the end. */
    static int set(String letters) {
        int bits = 0;
        for (char c : letters.toCharArray()) {
            bits |= c == '$' ? END : 1 << (letter(c) % 26);
        }
        return bits;
    }

    static int fault(int place, int kind) {
        return -2 - (1 + 8 * place + kind);
    }

    /** Numbers that are never one of 0 to last. */
    static int[] outside(int last) {
        return new int[] {-1, -2, MIN, MIN + 1, last + 1, last + 2, MAX - 1, MAX};
    }

    static void counts(PackedForest f, int... wants) {
        for (int what = 0; what < wants.length; what++) {
            due("count(" + what + ")", f.count(what), wants[what]);
        }
    }

    /** The pieces of the smallest tree, each as rule, from, to. */
    static void tree(PackedForest f, int[]... pieces) {
        due("smallest()", f.smallest(), pieces.length);
        for (int k = 0; k < pieces.length; k++) {
            for (int what = 0; what < 3; what++) {
                due("tree(" + k + ", " + what + ")", f.tree(k, what), pieces[k][what]);
            }
        }
        due("tree(" + pieces.length + ", 0)", f.tree(pieces.length, 0), NONE);
    }

    static int[] at(int rule, int from, int to) {
        return new int[] {rule, from, to};
    }
}
