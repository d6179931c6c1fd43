/** Each promise of the document in turn: ordinary inputs, the edges it names, and wrong inputs. */
public final class PromisesTest {
    private static final int MIN = Integer.MIN_VALUE;
    private static final int MAX = Integer.MAX_VALUE;
    private static final int S = 44;
    private static final int A = 26;
    private static final int B = 27;
    private static final int END = 1 << 26;
    private static final String SUMS = "E=EpE:1<;E=EtE:2<;E=x";

    private static int wrong;
    private static int asked;

    private static void due(int promise, String call, int got, int want) {
        asked++;
        if (got != want) {
            wrong++;
            System.out.println("promise " + promise + ": " + call + " answered " + got + ", due is " + want);
        }
    }

    public static void main(String[] args) {
        newObject();
        feedAndEnd();
        grammar();
        faults();
        tooManyStates();
        ruleAndSymbol();
        facts();
        firstsFollowsShortest();
        states();
        doneAndClashes();
        textActs();
        strike();
        ban();
        filter();
        undo();
        levels();
        derives();
        trees();
        endlessTrees();
        filtersOfTrees();
        pieces();
        smallest();
        smallestChoices();
        wholeAndMend();
        seedAndSpoken();
        count();
        images();
        askedBefore();
        linksFirst();
        wrongEverywhere();
        System.out.println(asked + " answers, " + wrong + " of them wrong");
        if (wrong != 0) {
            System.exit(1);
        }
    }

    // ---- helpers

    private static void feedText(PackedForest f, String text) {
        for (int at = 0; at < text.length(); at += 20) {
            int[] n = new int[5];
            for (int k = 0; k < 20; k++) {
                n[k / 4] = n[k / 4] << 8 | (at + k < text.length() ? text.charAt(at + k) : 0);
            }
            f.feed(n[0], n[1], n[2], n[3], n[4]);
        }
        f.end(text.length());
    }

    private static int tell(PackedForest f, String text) {
        f.end(0);
        feedText(f, text);
        return f.grammar();
    }

    private static PackedForest of(String grammar, String text) {
        PackedForest f = new PackedForest();
        due(4, grammar, tell(f, grammar) > 0 ? 1 : 0, 1);
        readAll(f, text);
        return f;
    }

    private static void readAll(PackedForest f, String text) {
        for (char c : text.toCharArray()) {
            f.read(c - 'a');
        }
    }

    private static int set(String letters) {
        int bits = 0;
        for (char c : letters.toCharArray()) {
            bits |= c == '$' ? END : 1 << (c >= 'a' ? c - 'a' : c - 'A');
        }
        return bits;
    }

    private static String repeat(String part, int times) {
        return part.repeat(times);
    }

    // ---- 1 to 4

    private static void newObject() {
        PackedForest f = new PackedForest();
        int[] counts = {0, -1, 0, 0, 0, 7, 0, 0, 0};
        for (int what = 0; what < counts.length; what++) {
            due(1, "count(" + what + ")", f.count(what), counts[what]);
        }
        due(1, "states()", f.states(), -1);
        due(1, "clashes()", f.clashes(), -1);
        due(1, "read(0)", f.read(0), -1);
        due(1, "strike(0)", f.strike(0), -1);
        due(1, "filter(0)", f.filter(0), -1);
        due(1, "undo()", f.undo(), -2);
        due(1, "alive(0, -1)", f.alive(0, -1), -1);
        due(1, "derives(44, 0, 0)", f.derives(S, 0, 0), -1);
        due(1, "forest(0)", f.forest(0), -1);
        due(1, "smallest()", f.smallest(), -1);
        due(1, "tree(0, 0)", f.tree(0, 0), -1);
        due(1, "whole()", f.whole(), -1);
        due(1, "mend()", f.mend(), -1);
        due(1, "spoken(1, -1)", f.spoken(1, -1), -3);
        due(1, "NONE", PackedForest.NONE, -1);
        for (int k = 0; k < 4; k++) {
            due(1, "back(" + k + ")", f.back(k), -1);
        }
    }

    private static void feedAndEnd() {
        PackedForest f = new PackedForest();
        for (int k = 1; k <= 20; k++) {
            due(2, "feed", f.feed(0x20202020, 0x20202020, 0x20202020, 0x20202020, 0x20202020), 20 * k);
        }
        due(2, "feed of a full tape", f.feed(0, 0, 0, 0, 0), -1);
        due(2, "count(8)", f.count(8), 400);
        due(3, "end(401)", f.end(401), -1);
        due(3, "end(-1)", f.end(-1), -1);
        due(3, "end(MIN)", f.end(MIN), -1);
        due(3, "end(381)", f.end(381), 381);
        due(2, "feed to 401", f.feed(0, 0, 0, 0, 0), -1);
        due(3, "count(8)", f.count(8), 381);
        due(3, "end(380)", f.end(380), 380);
        due(3, "end(381)", f.end(381), -1);
        due(2, "feed to 400", f.feed(0x413D6162, 0x63642020, 0x20202020, 0x20202020, 0x20202020), 400);
        due(4, "380 blanks and A=abcd", f.grammar(), 1);
        due(4, "count(8)", f.count(8), 0);
        for (int k = 0; k < 4; k++) {
            due(2, "symbol(0, " + k + ")", f.symbol(0, k), k);
        }
        due(2, "feed", f.feed(0xFF3D61FF, MIN, MAX, -1, 0), 20);
        due(4, "byte 255", f.grammar(), -3);
    }

    private static void grammar() {
        PackedForest f = of("S=SS:1<;S=a;A=b", "aa");
        f.ban(0, 0, 1);
        f.strike(2);
        f.filter(1);
        f.seed(77);
        due(4, "a fault", tell(f, "S=T"), -2 - (1 + 8 * 2 + 2));
        due(4, "all stays: text", f.count(2), 2);
        due(4, "all stays: struck", f.count(3), 4);
        due(4, "all stays: bans", f.count(4), 1);
        due(4, "all stays: filters", f.count(5), 5);
        due(4, "all stays: acts", f.count(6), 5);
        due(4, "all stays: rules", f.count(0), 3);
        due(4, "the tape is empty", f.count(8), 0);
        due(4, "another", tell(f, "B=b;B="), 2);
        int[] counts = {2, B, 0, 0, 0, 7, 0, 77, 0};
        for (int what = 0; what < counts.length; what++) {
            due(4, "count(" + what + ")", f.count(what), counts[what]);
        }
        due(4, "undo()", f.undo(), -2);
        due(4, "facts(5)", f.facts(5), set("B"));
        due(4, "12 rules", tell(f, repeat("S=a;", 11) + "S=b"), 12);
        due(4, "5 capitals", tell(f, "A=;B=;C=;D=;E=;A=E"), 6);
        due(4, "an empty right side alone", tell(f, "A="), 1);
        due(4, "blanks everywhere", tell(f, "  A  =  a  B  : 3 >  ; B =  "), 2);
        due(4, "blank: rank", f.rule(0, 2), 3);
        due(4, "blank: side", f.rule(0, 3), 2);
    }

    private static void fault(String text, int place, int kind) {
        PackedForest f = new PackedForest();
        due(4, "'" + text + "'", tell(f, text), -2 - (1 + 8 * place + kind));
        due(4, "no rules of '" + text + "'", f.count(0), 0);
    }

    private static void faults() {
        fault("", 0, 0);
        fault("   ", 3, 0);
        fault("a=b", 0, 0);
        fault(" 1", 1, 0);
        fault("S", 1, 0);
        fault("S ", 2, 0);
        fault("SS", 1, 0);
        fault("S==", 2, 0);
        fault("S=a;", 4, 0);
        fault("S=a; ", 5, 0);
        fault("S=a;;", 4, 0);
        fault("S=a-", 3, 0);
        fault("S=a:", 4, 0);
        fault("S=a:  ", 6, 0);
        fault("S=a:0", 4, 1);
        fault("S=a: x", 5, 1);
        fault("S=a:;", 4, 1);
        fault("S=a:12", 5, 0);
        fault("S=a:1a", 5, 0);
        fault("S=a:1<<", 6, 0);
        fault("S=a:1=", 5, 0);
        fault("S=a<", 3, 0);
        fault("S=abcde", 6, 3);
        fault("S=abcd E", 7, 3);
        fault("S=abcd1", 6, 0);
        fault("S=" + (char) 0, 2, 0);
        fault("S=[", 2, 0);
        fault("S=`", 2, 0);
        fault("S={", 2, 0);
        fault("@=a", 0, 0);
        fault(repeat("S=a;", 12) + "S=a", 48, 4);
        fault(repeat("S=a;", 12) + "  S", 50, 4);
        fault(repeat("S=a;", 12) + "x", 48, 0);
        fault(repeat("S=a;", 12), 48, 0);
        fault("A=;B=;C=;D=;E=; F=", 16, 4);
        fault("A=;B=;C=;D=;E=;A=;F", 18, 4);
        fault("A=;B=;C=;D=;E=;f", 15, 0);
        fault("S=aTU", 3, 2);
        fault("S=aTU;U=", 3, 2);
        fault("S=T;S=U;T=", 6, 2);
        fault("S=T;S=a:", 8, 0);
        fault("S=A;B=abcde", 10, 3);
    }

    private static void tooManyStates() {
        String over = "S=bA;A=bbbC;B=aA;C=bbD;D=abS;A=baC;C=bD;D=bB;B=baB;S=aa;C=aab;S=aS";
        fault(over, over.length(), 5);
        fault(over + "  ", over.length() + 2, 5);
        PackedForest f = of("S=bbA;A=bA;B=baB;B=bbbS;S=babS;S=aabB;A=bB;B=abaS;B=aS;B=aaB;A=ba", "b");
        due(11, "90 states", f.states(), 90);
        due(4, "too many of another grammar", tell(f, over), -2 - (1 + 8 * over.length() + 5));
        due(4, "the states that were there", f.states(), 90);
        due(4, "the text that was there", f.count(2), 1);
        due(24, "alive(1, -1)", f.alive(1, -1), 1);
    }

    // ---- 5 and 6

    private static void ruleAndSymbol() {
        PackedForest f = of("S=aSb:9!;S=:1>;A=SSSS;A=z:2<", "");
        int[][] rules = {{S, 3, 9, 3, 0}, {S, 0, 1, 2, 0}, {A, 4, 0, 0, 0}, {A, 1, 2, 1, 0}};
        for (int r = 0; r < rules.length; r++) {
            for (int what = 0; what < 5; what++) {
                due(5, "rule(" + r + ", " + what + ")", f.rule(r, what), rules[r][what]);
            }
        }
        f.strike(2);
        due(5, "rule(2, 4)", f.rule(2, 4), 1);
        due(5, "rule(2, 1)", f.rule(2, 1), 4);
        due(6, "symbol(2, 3)", f.symbol(2, 3), S);
        for (int no : new int[] {-1, 4, MIN, MAX}) {
            due(5, "rule(" + no + ", 0)", f.rule(no, 0), -1);
            due(6, "symbol(" + no + ", 0)", f.symbol(no, 0), -1);
        }
        for (int no : new int[] {-1, 5, MIN, MAX}) {
            due(5, "rule(0, " + no + ")", f.rule(0, no), -1);
            due(6, "symbol(2, " + no + ")", f.symbol(2, no), -1);
        }
        due(6, "symbol(0, 0)", f.symbol(0, 0), 0);
        due(6, "symbol(0, 1)", f.symbol(0, 1), S);
        due(6, "symbol(0, 3)", f.symbol(0, 3), -1);
        due(6, "symbol(1, 0)", f.symbol(1, 0), -1);
        due(6, "symbol(3, 0)", f.symbol(3, 0), 25);
    }

    // ---- 7 to 10

    private static void factsDue(PackedForest f, String... sets) {
        for (int what = 0; what < sets.length; what++) {
            due(7, "facts(" + what + ")", f.facts(what), set(sets[what]));
        }
    }

    private static void facts() {
        PackedForest f = of("S=AB;A=;B=b;B=AS;C=C;D=CaD;D=", "");
        factsDue(f, "AD", "SABD", "SAB", "SBC", "SBC", "SABCD");
        due(7, "facts(-1)", f.facts(-1), -1);
        due(7, "facts(6)", f.facts(6), -1);
        f.strike(1);
        factsDue(f, "D", "BD", "SAB", "C", "C", "SABCD");
        f.strike(0);
        factsDue(f, "D", "BD", "S", "C", "C", "SABCD");
        f = of("S=SaS;S=A;A=S;A=SA;A=", "");
        factsDue(f, "SA", "SA", "SA", "SA", "SA", "SA");
        f = of("S=aS;S=b", "");
        factsDue(f, "", "S", "S", "", "", "S");
        f = of("S=AAS;S=AaA;A=", "");
        factsDue(f, "A", "SA", "SA", "S", "S", "SA");
        f = of("S=Sa", "");
        factsDue(f, "", "", "S", "", "S", "S");
    }

    private static void firstsFollowsShortest() {
        PackedForest f = of("S=ABcS;S=d;A=;A=a;B=bB;B=;C=eAf;D=DgC", "");
        due(8, "firsts(S)", f.firsts(S), set("abcd"));
        due(8, "firsts(A)", f.firsts(A), set("a"));
        due(8, "firsts(D) that does not end", f.firsts(29), 0);
        due(9, "follows(S)", f.follows(S), END);
        due(9, "follows(A): C is not reached", f.follows(A), set("bc"));
        due(9, "follows(B)", f.follows(B), set("c"));
        due(9, "follows(C)", f.follows(28), 0);
        due(10, "shortest(S)", f.shortest(S), 1);
        due(10, "shortest(C)", f.shortest(28), 2);
        due(10, "shortest(D)", f.shortest(29), -2);
        f.strike(1);
        due(10, "shortest(S), d struck", f.shortest(S), -2);
        due(8, "firsts(S), d struck", f.firsts(S), set("abc"));
        f = of("S=AS;S=ZAb;A=a;Z=Z", "");
        due(8, "firsts of what does not end", f.firsts(51), 0);
        due(9, "follows(A), ends or not", f.follows(A), set("ab"));
        due(9, "follows(Z)", f.follows(51), set("a"));
        f = of("S=AB;A=a;B=AA;B=", "");
        due(9, "follows(C), by three rules", of("S=aAB;B=C;A=B;C=b;C=DB;D=", "").follows(28), set("b$"));
        due(9, "follows(A)", f.follows(A), set("a$"));
        due(9, "follows(B)", f.follows(B), set("$"));
        f.strike(0);
        due(9, "follows(S), all struck", f.follows(S), END);
        due(8, "firsts(S), all struck", f.firsts(S), 0);
        due(9, "follows(A), not reached", f.follows(A), 0);
        f = of("S=AAAA;A=BBBB;B=CCCC;C=DDDD;D=aaaa", "");
        due(10, "the longest short row", f.shortest(S), 1024);
        due(35, "mend() of an empty text", f.mend(), 1024);
        for (int no : new int[] {-1, 0, 25, 31, 52, MIN, MAX}) {
            due(8, "firsts(" + no + ")", f.firsts(no), -1);
            due(9, "follows(" + no + ")", f.follows(no), -1);
            due(10, "shortest(" + no + ")", f.shortest(no), -1);
        }
    }

    // ---- 11 to 15

    private static void states() {
        PackedForest f = of("S=aSB;S=bB;B=a;B=", "");
        due(11, "states()", f.states(), 7);
        int[][] goes = {{0, 0, 1}, {0, 1, 2}, {0, S, -2}, {1, S, 3}, {1, 0, 1}, {1, 1, 2}, {2, B, 4}, {2, 0, 5},
            {3, B, 6}, {3, 0, 5}, {4, 0, -2}, {0, B, -2}, {0, 51, -2}};
        for (int[] go : goes) {
            due(12, "goes(" + go[0] + ", " + go[1] + ")", f.goes(go[0], go[1]), go[2]);
        }
        for (int no : new int[] {-1, 7, MIN, MAX}) {
            due(12, "goes(" + no + ", 0)", f.goes(no, 0), -1);
            due(13, "points(" + no + ", 0)", f.points(no, 0), -1);
            due(14, "done(" + no + ")", f.done(no), -1);
        }
        for (int no : new int[] {-1, 52, MIN, MAX}) {
            due(12, "goes(0, " + no + ")", f.goes(0, no), -1);
        }
        for (int no : new int[] {-1, 4, MIN, MAX}) {
            due(13, "points(0, " + no + ")", f.points(0, no), -1);
        }
        due(13, "points(0, 0)", f.points(0, 0), 1);
        due(13, "points(1, 0)", f.points(1, 0), 3);
        due(13, "points(1, 1)", f.points(1, 1), 1);
        due(13, "points(2, 2)", f.points(2, 2), 1);
        due(13, "points(6, 0)", f.points(6, 0), 8);
        f.strike(2);
        due(13, "points(2, 2), struck", f.points(2, 2), 0);
        f = of("S=a", "");
        f.strike(0);
        due(11, "states(), all struck", f.states(), 1);
        due(12, "goes(0, 0), all struck", f.goes(0, 0), -2);
    }

    private static void doneAndClashes() {
        PackedForest f = of("S=aAA;S=aS;A=;A=b", "");
        due(14, "done(0)", f.done(0), 0);
        due(14, "done(1): behind a, A A can be empty", f.done(1), 5);
        due(14, "done of a last point", f.done(f.goes(1, S)), 2);
        due(14, "done(goes(1, A))", f.done(f.goes(1, A)), 5);
        f.strike(2);
        due(14, "done(1), A not empty", f.done(1), 0);
        // A shift and an end of a rule for one small.
        due(15, "clashes() of S=aS;S=a;S=", of("S=aS;S=a", "").clashes(), 0);
        due(15, "clashes() of S=Sa;S=a", of("S=Sa;S=a", "").clashes(), 0);
        due(15, "clashes() of S=SS;S=a", of("S=SS;S=a", "").clashes(), 1);
        // Two ends for the end of the text alone.
        due(15, "clashes() of S=A;S=B;A=a;B=a", of("S=A;S=B;A=a;B=a", "").clashes(), 1);
        // Two ends that nothing can follow at once.
        due(15, "clashes() of S=Ab;S=Bc;A=a;B=a", of("S=Ab;S=Bc;A=a;B=a", "").clashes(), 0);
        // A shift with the second of two ends alone.
        due(15, "clashes() of a shift and two ends", of("S=Ab;S=Bc;S=ac;A=a;B=a", "").clashes(), 1);
        // One rule told twice.
        due(15, "clashes() of S=a;S=a", of("S=a;S=a", "").clashes(), 1);
        PackedForest g = of("S=a;S=a", "");
        g.strike(1);
        due(15, "clashes(), one struck", g.clashes(), 0);
    }

    // ---- 16 to 23

    private static void textActs() {
        PackedForest f = of("S=a", "");
        due(17, "drop() of none", f.drop(), -1);
        due(18, "change(0, 0) of none", f.change(0, 0), -1);
        due(16, "read(-1)", f.read(-1), -1);
        due(16, "read(26)", f.read(26), -1);
        due(16, "read(MIN)", f.read(MIN), -1);
        for (int k = 1; k <= 12; k++) {
            due(16, "read(" + (k + 13) + ")", f.read(k + 13), k);
        }
        due(16, "read(0) of 12", f.read(0), -1);
        due(38, "count(6)", f.count(6), 12);
        due(23, "letter(0)", f.letter(0), 14);
        due(23, "letter(11)", f.letter(11), 25);
        due(23, "letter(12)", f.letter(12), -1);
        due(23, "letter(-1)", f.letter(-1), -1);
        due(23, "letter(MAX)", f.letter(MAX), -1);
        due(18, "change(0, 14): the same", f.change(0, 14), -1);
        due(18, "change(0, 26)", f.change(0, 26), -1);
        due(18, "change(0, -1)", f.change(0, -1), -1);
        due(18, "change(12, 0)", f.change(12, 0), -1);
        due(18, "change(-1, 0)", f.change(-1, 0), -1);
        due(18, "change(11, 3)", f.change(11, 3), 25);
        due(23, "letter(11)", f.letter(11), 3);
        due(17, "drop()", f.drop(), 3);
        due(23, "letter(11)", f.letter(11), -1);
        due(17, "drop()", f.drop(), 24);
        due(38, "count(2)", f.count(2), 10);
        due(38, "count(6)", f.count(6), 15);
    }

    private static void strike() {
        PackedForest f = of("S=SS;S=a;S=b", "ab");
        due(19, "strike(0)", f.strike(0), 3);
        due(38, "count(3)", f.count(3), 1);
        due(28, "trees", f.trees(S, 0, 2), 0);
        due(19, "strike(2)", f.strike(2), 2);
        due(38, "count(3)", f.count(3), 5);
        due(27, "derives(S, 1, 2)", f.derives(S, 1, 2), 0);
        due(19, "strike(0) again", f.strike(0), 4);
        due(38, "count(3)", f.count(3), 4);
        due(19, "strike(3)", f.strike(3), -1);
        due(19, "strike(-1)", f.strike(-1), -1);
        due(19, "strike(MAX)", f.strike(MAX), -1);
        due(38, "count(6)", f.count(6), 5);
        f = of("S=aaB;A=bS;B=baB;B=abA;A=aaS;A=abaB;A=baaA;S=bA;S=bbaA;B=bbbB;B=bB;A=bS", "ab");
        due(11, "states()", f.states(), 80);
        due(19, "strike(10): more than 90 states", f.strike(10), -2);
        due(19, "nothing happens: states()", f.states(), 80);
        due(19, "nothing happens: count(3)", f.count(3), 0);
        due(19, "nothing happens: count(6)", f.count(6), 2);
    }

    private static void ban() {
        PackedForest f = of("S=SaS;S=b;A=AAAA;A=a;A=b;A=c", "");
        due(20, "ban(0, 0, 0)", f.ban(0, 0, 0), 1);
        due(20, "ban(0, 1, 0): a small", f.ban(0, 1, 0), -1);
        due(20, "ban(0, 3, 0): no place", f.ban(0, 3, 0), -1);
        due(20, "ban(0, -1, 0)", f.ban(0, -1, 0), -1);
        due(20, "ban(0, MAX, 0)", f.ban(0, MAX, 0), -1);
        due(20, "ban(0, 0, 2): another left", f.ban(0, 0, 2), -1);
        due(20, "ban(0, 0, 6)", f.ban(0, 0, 6), -1);
        due(20, "ban(0, 0, -1)", f.ban(0, 0, -1), -1);
        due(20, "ban(6, 0, 0)", f.ban(6, 0, 0), -1);
        due(20, "ban(-1, 0, 0)", f.ban(-1, 0, 0), -1);
        due(20, "ban(1, 0, 0)", f.ban(1, 0, 0), -1);
        for (int k = 2; k <= 8; k++) {
            due(20, "ban " + k, f.ban(2, k % 4, 2 + k / 4), k);
        }
        due(20, "a ninth", f.ban(0, 2, 1), -1);
        due(38, "count(4)", f.count(4), 8);
        due(20, "one of them again", f.ban(0, 0, 0), 7);
        due(20, "then another", f.ban(0, 2, 1), 8);
        due(38, "count(6)", f.count(6), 10);
        due(22, "undo()", f.undo(), 9);
        due(38, "count(4)", f.count(4), 7);
        due(22, "undo()", f.undo(), 8);
        due(38, "count(4)", f.count(4), 8);
        f.strike(1);
        due(20, "of a struck rule", f.ban(2, 2, 2), 7);
        due(4, "grammar", tell(f, "S=a"), 1);
        due(38, "count(4)", f.count(4), 0);
    }

    private static void filter() {
        PackedForest f = of("S=a", "");
        due(21, "filter(0)", f.filter(0), 6);
        due(21, "filter(2)", f.filter(2), 2);
        due(21, "filter(0)", f.filter(0), 3);
        due(21, "filter(1)", f.filter(1), 1);
        due(21, "filter(3)", f.filter(3), -1);
        due(21, "filter(-1)", f.filter(-1), -1);
        due(21, "filter(MIN)", f.filter(MIN), -1);
        due(38, "count(5)", f.count(5), 1);
        due(38, "count(6)", f.count(6), 4);
    }

    private static void undo() {
        PackedForest f = of("S=SS;S=a;S=b", "");
        due(22, "undo() of none", f.undo(), -2);
        f.read(0);
        f.change(0, 1);
        f.read(2);
        f.drop();
        f.strike(1);
        f.ban(0, 0, 0);
        f.filter(2);
        f.seed(9);
        f.end(0);
        f.read(99);
        f.spoken(1, -1);
        due(38, "count(6)", f.count(6), 7);
        due(22, "undo() of filter", f.undo(), 6);
        due(22, "filters", f.count(5), 7);
        due(22, "undo() of ban", f.undo(), 5);
        due(22, "bans", f.count(4), 0);
        due(22, "undo() of strike", f.undo(), 4);
        due(22, "struck", f.count(3), 0);
        due(22, "states", f.states(), 5);
        due(22, "undo() of drop", f.undo(), 3);
        due(22, "letter(1)", f.letter(1), 2);
        due(22, "undo() of read", f.undo(), 2);
        due(22, "count(2)", f.count(2), 1);
        due(22, "derives b", f.derives(S, 0, 1), 1);
        due(22, "undo() of change", f.undo(), 1);
        due(22, "letter(0)", f.letter(0), 0);
        due(22, "x stays", f.count(7), 9);
        due(22, "undo() of read", f.undo(), 0);
        due(22, "count(2)", f.count(2), 0);
        due(22, "undo() of none", f.undo(), -2);
        for (int k = 0; k < 25; k++) {
            f.filter(k % 3);
            due(22, "acts that can be undone", f.count(6), Math.min(k + 1, 20));
        }
        for (int k = 19; k >= 0; k--) {
            due(22, "undo()", f.undo(), k);
        }
        due(22, "undo() of none", f.undo(), -2);
        due(22, "the first five stay", f.count(5), 3);
    }

    // ---- 24 to 26

    private static void levels() {
        PackedForest f = of("S=aSb;S=", "aab");
        // State 1 is behind a, 2 behind its S (the S from 1 to 3, too), 3 behind b.
        int[] alive = {1, 2, 2, 2};
        int[] links = {0, 2, 2, 2};
        String[] expects = {"a", "ab", "ab", "b"};
        for (int level = 0; level < 4; level++) {
            due(24, "alive(" + level + ", -1)", f.alive(level, -1), alive[level]);
            due(25, "links(" + level + ", -1)", f.links(level, -1), links[level]);
            due(26, "expects(" + level + ")", f.expects(level), set(expects[level]));
        }
        due(24, "alive(3, 3)", f.alive(3, 3), 1);
        due(24, "alive(3, 0)", f.alive(3, 0), 0);
        due(25, "links(3, 3)", f.links(3, 3), 1);
        due(25, "links(3, 1)", f.links(3, 1), 0);
        f.read(1);
        due(24, "alive(4, -1)", f.alive(4, -1), 1);
        for (int no : new int[] {-1, 5, MIN, MAX}) {
            due(24, "alive(" + no + ", 0)", f.alive(no, 0), -1);
            due(25, "links(" + no + ", -1)", f.links(no, -1), -1);
            due(26, "expects(" + no + ")", f.expects(no), -1);
        }
        for (int no : new int[] {-2, 4, MIN, MAX}) {
            due(24, "alive(0, " + no + ")", f.alive(0, no), -1);
            due(25, "links(0, " + no + ")", f.links(0, no), -1);
        }
        f.change(0, 1);
        due(24, "alive(0, -1): the others are not read", f.alive(0, -1), 1);
        due(24, "alive(1, -1)", f.alive(1, -1), 0);
        due(26, "expects(1) of none", f.expects(1), 0);
        PackedForest g = of("S=SS;S=a", "aaa");
        // Filters don't matter for what is alive.
        g.ban(0, 0, 0);
        g.ban(0, 1, 0);
        due(24, "alive(3, -1)", g.alive(3, -1), 3);
        due(25, "links(3, -1)", g.links(3, -1), 6);
        g.strike(0);
        g.strike(1);
        due(24, "alive(0, 0), all struck", g.alive(0, 0), 1);
        due(26, "expects(0), all struck", g.expects(0), 0);
    }

    // ---- 27 to 31

    private static void derives() {
        PackedForest f = of("S=aSb;S=;A=a:3;B=A:9", "aabb");
        due(27, "derives(S, 0, 4)", f.derives(S, 0, 4), 1);
        due(27, "derives(S, 1, 3)", f.derives(S, 1, 3), 1);
        due(27, "derives(S, 0, 3)", f.derives(S, 0, 3), 0);
        due(27, "derives(S, 4, 4)", f.derives(S, 4, 4), 1);
        due(27, "derives(A, 4, 4)", f.derives(A, 4, 4), 0);
        due(27, "derives(B, 1, 2), though not allowed", f.derives(B, 1, 2), 1);
        due(28, "trees(B, 1, 2), as it is not allowed", f.trees(B, 1, 2), 0);
        for (int no : new int[] {-1, 5, MIN, MAX}) {
            due(27, "derives(S, " + no + ", 4)", f.derives(S, no, 4), -1);
            due(27, "derives(S, 0, " + no + ")", f.derives(S, 0, no), -1);
            due(28, "trees(S, " + no + ", 4)", f.trees(S, no, 4), -1);
            due(28, "trees(S, 0, " + no + ")", f.trees(S, 0, no), -1);
        }
        due(27, "derives(S, 3, 2)", f.derives(S, 3, 2), -1);
        due(28, "trees(S, 3, 2)", f.trees(S, 3, 2), -1);
        for (int no : new int[] {-1, 0, 28, 52, MIN, MAX}) {
            due(27, "derives(" + no + ", 0, 0)", f.derives(no, 0, 0), -1);
            due(28, "trees(" + no + ", 0, 0)", f.trees(no, 0, 0), -1);
        }
        f.strike(2);
        due(27, "derives(A, 0, 1), struck", f.derives(A, 0, 1), 0);
    }

    private static void trees() {
        PackedForest f = of("S=SS;S=a", "aaaaaaaaaaaa");
        int[] catalan = {1, 1, 2, 5, 14, 42, 132, 429, 1430, 4862, 16796, 58786};
        for (int n = 1; n <= 12; n++) {
            due(28, "trees(S, 0, " + n + ")", f.trees(S, 0, n), catalan[n - 1]);
        }
        f = of("S=AAAS;S=;A=a;A=a;A=a;A=a;A=a;A=a;A=a;A=a", "aaaaaaaaa");
        due(28, "8 ** 9", f.trees(S, 0, 9), 134217728);
        readAll(f, "aaa");
        due(28, "8 ** 12", f.trees(S, 0, 12), -2);
        f = of("S=AAAB;A=CCC;B=a;B=a;C=a;C=a;C=a;C=a;C=a;C=a;C=a;C=a", "aaaaaaaaaa");
        due(28, "8 ** 9 * 2", f.trees(S, 0, 10), 268435456);
        f = of("S=BBBB;B=CCD;C=a;C=a;C=a;C=a;C=a;C=a;D=a;D=a", "aaaaaaaaaaaa");
        due(28, "(6 * 6 * 2) ** 4", f.trees(S, 0, 12), 26873856);
        f = of("S=BBBB;B=CCD;C=a;C=a;C=a;C=a;C=a;C=a;C=a;C=a;D=a;D=a", "aaaaaaaaaaaa");
        due(28, "(8 * 8 * 2) ** 4 = 2 ** 28", f.trees(S, 0, 12), 268435456);
        f = of("S=BBBB;B=CCD;C=a;C=a;C=a;C=a;C=a;C=a;C=a;D=a;D=a;D=a", "aaaaaaaaaaaa");
        due(28, "(7 * 7 * 3) ** 4", f.trees(S, 0, 12), 466948881);
        f = of("S=BBBB;B=CCC;C=a;C=a;C=a;C=a;C=a;C=a", "aaaaaaaaaaaa");
        due(28, "6 ** 12 = 2176782336", f.trees(S, 0, 12), -2);
        due(28, "6 ** 9", f.trees(B, 0, 3), 216);
    }

    private static void endlessTrees() {
        PackedForest f = of("S=S;S=a;S=A;A=B;B=A;B=b", "ab");
        due(28, "trees(S, 0, 1)", f.trees(S, 0, 1), -3);
        due(28, "trees(S, 1, 2)", f.trees(S, 1, 2), -3);
        due(28, "trees(S, 0, 0)", f.trees(S, 0, 0), 0);
        due(28, "trees(A, 0, 1): the ring has no tree", f.trees(A, 0, 1), 0);
        f.ban(0, 0, 0);
        due(28, "trees(S, 0, 1), no S=S below S=S", f.trees(S, 0, 1), 2);
        due(28, "trees(S, 1, 2), A and B in a ring yet", f.trees(S, 1, 2), -3);
        f.ban(3, 0, 4);
        due(28, "trees(S, 1, 2), no B=A below A=B", f.trees(S, 1, 2), 2);
        f.filter(2);
        due(28, "trees(S, 0, 1), bans off", f.trees(S, 0, 1), -3);
        f = of("S=SS;S=;S=a", "a");
        due(28, "trees(S, 0, 0) with S=SS, S=", f.trees(S, 0, 0), -3);
        due(28, "trees(S, 0, 1)", f.trees(S, 0, 1), -3);
        f.strike(1);
        due(28, "trees(S, 0, 0), not empty", f.trees(S, 0, 0), 0);
        due(28, "trees(S, 0, 1), not empty", f.trees(S, 0, 1), 1);
        // A ring by the first place, though the second could be the whole, too.
        due(28, "trees(S, 0, 0) with S=SA", of("S=SA;S=;A=", "").trees(S, 0, 0), -3);
        due(28, "trees(S, 0, 0) with S=AS", of("S=AS;S=;A=", "").trees(S, 0, 0), -3);
        // No ring, though what is below is counted only behind other rules.
        due(28, "trees(S, 0, 0) with S=AB;A=C", of("S=AB;B=;A=C;C=", "").trees(S, 0, 0), 1);
        // A capital with an endless part below it.
        f = of("S=aA;A=A;A=b", "ab");
        due(28, "trees(S, 0, 2)", f.trees(S, 0, 2), -3);
        // More than 2147483647 and endless: endless counts.
        f = of("S=AAAS;S=;S=S;A=a;A=a;A=a;A=a;A=a;A=a;A=a;A=a", "aaaaaaaaaaaa");
        due(28, "trees(S, 0, 12)", f.trees(S, 0, 12), -3);
        f.strike(2);
        due(28, "trees(S, 0, 12), not endless", f.trees(S, 0, 12), -2);
    }

    private static void filtersOfTrees() {
        PackedForest f = of(SUMS, "xpxtx");
        due(28, "by rank", f.trees(30, 0, 5), 1);
        f.filter(0);
        due(28, "no ranks", f.trees(30, 0, 5), 2);
        f.filter(0);
        f.change(3, 15);
        due(28, "by side <", f.trees(30, 0, 5), 1);
        due(30, "by side <: ways", f.ways(0, 0, 5), 1);
        f.filter(1);
        due(28, "no sides", f.trees(30, 0, 5), 2);
        due(30, "no sides: ways", f.ways(0, 0, 5), 2);
        f = of("E=EpE:1>;E=x", "xpxpx");
        due(28, "by side >", f.trees(30, 0, 5), 1);
        due(33, "by side >: the first piece below", f.tree(1, 2), 1);
        f = of("E=EpE:1!;E=x", "xpxpx");
        due(28, "by side !", f.trees(30, 0, 5), 0);
        due(27, "derived all the same", f.derives(30, 0, 5), 1);
        due(28, "by side !, one alone", f.trees(30, 0, 3), 1);
        f = of("E=EpE:1;E=x", "xpxpx");
        due(28, "no side", f.trees(30, 0, 5), 2);
        f = of("E=EpE;E=x:9", "xpxpx");
        due(28, "no rank above", f.trees(30, 0, 5), 2);
        f = of("E=EpE:9;E=x", "xpx");
        due(28, "no rank below", f.trees(30, 0, 3), 1);
        f = of("E=EpE:9;E=x:8", "xpx");
        due(28, "less rank below", f.trees(30, 0, 3), 0);
        due(34, "whole(), whether allowed or not", f.whole(), 3);
        due(35, "mend(), whether allowed or not", f.mend(), 0);
        due(32, "smallest()", f.smallest(), -2);
        f = of("E=aEb:1>;E=:1", "aabb");
        // The last place is that of b, so no E may be of the same rank.
        due(28, "side > with a small last", f.trees(30, 0, 4), 0);
        f = of("S=SS;S=a", "aaaa");
        f.ban(0, 1, 0);
        due(28, "a ban", f.trees(S, 0, 4), 1);
        f.ban(0, 0, 0);
        due(28, "two bans", f.trees(S, 0, 4), 0);
        due(28, "two bans, one pair", f.trees(S, 1, 3), 1);
        f.filter(2);
        due(28, "bans off", f.trees(S, 0, 4), 5);
        f.ban(0, 1, 1);
        due(28, "a ban while they are off", f.trees(S, 0, 4), 5);
        f.filter(2);
        due(28, "on again", f.trees(S, 0, 2), 0);
    }

    private static void pieces() {
        PackedForest f = of("S=SS;S=a;A=a", "aaa");
        due(29, "piece(0, 0, 3)", f.piece(0, 0, 3), 1);
        due(29, "piece(0, 0, 2)", f.piece(0, 0, 2), 1);
        due(29, "piece(0, 1, 3)", f.piece(0, 1, 3), 1);
        due(29, "piece(1, 0, 3)", f.piece(1, 0, 3), 0);
        due(29, "piece(2, 0, 1): not below the start", f.piece(2, 0, 1), 0);
        due(30, "ways(0, 0, 3)", f.ways(0, 0, 3), 2);
        due(30, "ways(2, 0, 1): not in the forest", f.ways(2, 0, 1), 1);
        due(30, "ways(1, 0, 0)", f.ways(1, 0, 0), 0);
        due(31, "forest(0)", f.forest(0), 6);
        due(31, "forest(1)", f.forest(1), 6);
        due(31, "forest(2)", f.forest(2), 1);
        due(31, "forest(3)", f.forest(3), 3);
        due(31, "forest(-1)", f.forest(-1), -1);
        due(31, "forest(4)", f.forest(4), -1);
        f.ban(0, 1, 0);
        due(29, "piece(0, 1, 3), banned", f.piece(0, 1, 3), 0);
        due(30, "ways(0, 0, 3), banned", f.ways(0, 0, 3), 1);
        due(30, "ways(0, 1, 3), of itself allowed", f.ways(0, 1, 3), 1);
        due(31, "forest(3), none", f.forest(3), -2);
        for (int no : new int[] {-1, 4, MIN, MAX}) {
            due(29, "piece(0, " + no + ", 3)", f.piece(0, no, 3), -1);
            due(29, "piece(0, 0, " + no + ")", f.piece(0, 0, no), -1);
            due(30, "ways(0, " + no + ", 3)", f.ways(0, no, 3), -1);
            due(30, "ways(0, 0, " + no + ")", f.ways(0, 0, no), -1);
        }
        for (int no : new int[] {-1, 3, MIN, MAX}) {
            due(29, "piece(" + no + ", 0, 0)", f.piece(no, 0, 0), -1);
            due(30, "ways(" + no + ", 0, 0)", f.ways(no, 0, 0), -1);
        }
        due(29, "piece(0, 2, 1)", f.piece(0, 2, 1), -1);
        due(30, "ways(0, 2, 1)", f.ways(0, 2, 1), -1);
        f.strike(1);
        due(29, "piece(0, 0, 3), no a", f.piece(0, 0, 3), 0);
        due(30, "ways(1, 0, 1), struck", f.ways(1, 0, 1), 0);
        due(31, "forest(0), no a", f.forest(0), 0);
        f = of("S=AAAA;A=aA;A=", "aaaaaaaaaaaa");
        due(30, "ways of four: 15 over 3", f.ways(0, 0, 12), 455);
        due(30, "ways of an empty right side", f.ways(2, 5, 5), 1);
        due(30, "ways of an empty right side for a letter", f.ways(2, 5, 6), 0);
        // Two rules of one way each make a node ambiguous.
        f = of("S=a;S=A;A=a", "a");
        due(31, "forest(0)", f.forest(0), 3);
        due(31, "forest(1)", f.forest(1), 2);
        due(31, "forest(2)", f.forest(2), 1);
        due(31, "forest(3)", f.forest(3), 1);
    }

    // ---- 32 to 35

    private static void treeDue(PackedForest f, int[]... pieces) {
        due(32, "smallest()", f.smallest(), pieces.length);
        for (int k = 0; k < pieces.length; k++) {
            for (int what = 0; what < 3; what++) {
                due(33, "tree(" + k + ", " + what + ")", f.tree(k, what), pieces[k][what]);
            }
        }
        due(33, "tree behind the last", f.tree(pieces.length, 0), -1);
    }

    private static void smallest() {
        PackedForest f = of(SUMS, "xpxtx");
        treeDue(f, new int[] {0, 0, 5}, new int[] {2, 0, 1}, new int[] {1, 2, 5}, new int[] {2, 2, 3}, new int[] {2, 4, 5});
        due(33, "tree(-1, 0)", f.tree(-1, 0), -1);
        due(33, "tree(MIN, 0)", f.tree(MIN, 0), -1);
        due(33, "tree(MAX, 0)", f.tree(MAX, 0), -1);
        due(33, "tree(0, -1)", f.tree(0, -1), -1);
        due(33, "tree(0, 3)", f.tree(0, 3), -1);
        f.read(15);
        due(32, "smallest() of none", f.smallest(), -2);
        due(33, "tree(0, 0) of none", f.tree(0, 0), -1);
        f.undo();
        due(32, "smallest(), undone", f.smallest(), 5);
    }

    private static void smallestChoices() {
        // Fewest pieces count ahead of the least rule.
        treeDue(of("S=A;S=a;A=a", "a"), new int[] {1, 0, 1});
        // The least rule ahead of the ends.
        treeDue(of("S=AB;S=BA;A=a;A=;B=a;B=", "a"), new int[] {0, 0, 1}, new int[] {3, 0, 0}, new int[] {4, 0, 1});
        // The first row of ends, then place by place.
        treeDue(of("S=AA;A=a;A=aa;A=b;A=a", "aaa"), new int[] {0, 0, 3}, new int[] {1, 0, 1}, new int[] {2, 1, 3});
        // What is below chooses among what is not forbidden there.
        PackedForest f = of("S=AA;A=a;A=a", "aa");
        f.ban(0, 1, 1);
        treeDue(f, new int[] {0, 0, 2}, new int[] {1, 0, 1}, new int[] {2, 1, 2});
        // Fewest pieces of the whole, not of the first part.
        f = of("S=AA;A=aa;A=B;B=a", "aaa");
        treeDue(f, new int[] {0, 0, 3}, new int[] {2, 0, 1}, new int[] {3, 0, 1}, new int[] {1, 1, 3});
        // A ring is never gone round.
        treeDue(of("S=S;S=SS;S=;S=a", ""), new int[] {2, 0, 0});
        treeDue(of("S=S;S=SS;S=;S=a", "aa"), new int[] {1, 0, 2}, new int[] {3, 0, 1}, new int[] {3, 1, 2});
        // Very many pieces of empty rows.
        f = of("S=AAAA;A=BBBB;B=CCCC;C=DDDD;D=", "");
        due(32, "smallest()", f.smallest(), 341);
        due(33, "tree(340, 0)", f.tree(340, 0), 4);
        due(33, "tree(339, 0)", f.tree(339, 0), 4);
        due(33, "tree(336, 0)", f.tree(336, 0), 3);
        due(33, "tree(86, 0)", f.tree(86, 0), 1);
    }

    private static void wholeAndMend() {
        PackedForest f = of("S=aSb;S=", "aabbab");
        due(34, "whole()", f.whole(), 4);
        due(35, "mend()", f.mend(), 2);
        f = of("S=ab", "ba");
        due(34, "whole() for none", f.whole(), -2);
        due(35, "mend() ba to ab", f.mend(), 2);
        f = of("S=aa", "aaba");
        due(35, "mend() by leaving out", f.mend(), 2);
        due(34, "whole()", f.whole(), 2);
        f = of("S=abc", "ac");
        due(35, "mend() by putting in", f.mend(), 1);
        f = of("S=abc", "axc");
        due(35, "mend() by changing", f.mend(), 1);
        f = of("S=", "abc");
        due(35, "mend() to the empty row", f.mend(), 3);
        due(34, "whole() of the empty row", f.whole(), 0);
        f = of("S=aS", "a");
        due(35, "mend() where no row is derived", f.mend(), -2);
        due(34, "whole() where no row is derived", f.whole(), -2);
        f = of("S=ABAB;A=aa;A=;B=bb", "abababababab");
        due(35, "mend() of twelve", f.mend(), 4);
        f.strike(2);
        due(35, "mend(), A= struck", f.mend(), 4);
        f.strike(3);
        due(35, "mend(), B struck", f.mend(), -2);
        f = of("S=S;S=A;A=S;A=bbbb", "a");
        due(35, "mend() with rings", f.mend(), 4);
        f = of("S=SS;S=acb", "abcabcacb");
        due(35, "mend() of three", f.mend(), 3);
    }

    // ---- 36 to 40

    private static void seedAndSpoken() {
        PackedForest f = new PackedForest();
        due(36, "seed(5) without a grammar", f.seed(5), 0);
        due(36, "seed(-1)", f.seed(-1), -1);
        due(36, "seed(MIN)", f.seed(MIN), -1);
        due(38, "count(7)", f.count(7), 5);
        due(36, "seed(MAX)", f.seed(MAX), 5);
        due(36, "seed(0)", f.seed(0), MAX);
        due(37, "spoken(1, 0) without a grammar", f.spoken(1, 0), -3);
        tell(f, "S=abSc;S=zz");
        // x of 0: 12345, 1406932606, 654583775, 1449466924, ..; draws 0, 21468, 9988, 22117, ..
        due(37, "spoken(1, -1)", f.spoken(1, -1), 11);
        due(37, "spoken(1, 6)", f.spoken(1, 6), 25);
        due(37, "spoken(1, 8)", f.spoken(1, 8), 2);
        tell(f, "S=a;S=b;S=c;S=d;S=e;S=f;S=g;S=h;S=i;S=j");
        int[] draws = {0, 21468, 9988, 22117, 3498, 16927, 16045, 19741, 12122, 8410};
        for (int t = 1; t <= 10; t++) {
            due(37, "spoken(" + t + ", 0)", f.spoken(t, 0), draws[t - 1] % 10);
            due(37, "spoken(" + t + ", -1)", f.spoken(t, -1), 1);
            due(37, "spoken(" + t + ", 1)", f.spoken(t, 1), -1);
        }
        due(37, "x as it was", f.count(7), 0);
        f.strike(0);
        due(37, "spoken(2, 0), one struck", f.spoken(2, 0), 1 + 21468 % 9);
        for (int no : new int[] {0, 11, -1, MIN, MAX}) {
            due(37, "spoken(" + no + ", 0)", f.spoken(no, 0), -3);
        }
        for (int no : new int[] {-2, 24, MIN, MAX}) {
            due(37, "spoken(1, " + no + ")", f.spoken(1, no), -3);
        }
        due(37, "spoken(1, 23)", f.spoken(1, 23), -1);
        spokenGivenUp(f);
    }

    private static void spokenGivenUp(PackedForest f) {
        tell(f, "S=T;T=S");
        due(37, "30 replaced, one yet", f.spoken(1, -1), -2);
        tell(f, "S=AAAA;A=BBBB;B=a");
        due(37, "21 replaced", f.spoken(1, -1), 16);
        tell(f, "S=AAAA;A=BBBB;B=C;C=a");
        due(37, "37 to be replaced", f.spoken(1, -1), -2);
        tell(f, "S=ABBB;A=CCCC;B=CCCC;C=a");
        due(37, "21 replaced, too", f.spoken(1, -1), 16);
        tell(f, "S=AAAB;A=CCDD;D=C;B=CCCD;C=a");
        due(37, "5 + 16 + 7 = 28 replaced", f.spoken(1, -1), 16);
        tell(f, "S=AAAB;A=CCDD;D=C;B=CDDD;C=a");
        due(37, "5 + 16 + 9 = 30 replaced", f.spoken(1, -1), 16);
        tell(f, "S=AAAB;A=CCDD;D=C;B=DDDD;C=a");
        due(37, "31 to be replaced", f.spoken(1, -1), -2);
        tell(f, "S=AAAA;A=BBaa;B=bbcc");
        due(37, "24 + 16 symbols", f.spoken(1, -1), -2);
        tell(f, "S=AAAA;A=BBaa;B=cc");
        due(37, "24 symbols", f.spoken(1, -1), 24);
        due(37, "the last of 24", f.spoken(1, 23), 0);
        tell(f, "S=AAAA;A=BBBB;B=bD;D=");
        due(37, "16 symbols, more replaced", f.spoken(1, -1), -2);
        tell(f, "S=A;A=a");
        f.strike(1);
        due(37, "no rule", f.spoken(1, -1), -2);
        // Given up ones draw, too; the last one counts.
        tell(f, "S=aaaS;S=b");
        f.seed(0);
        due(37, "spoken(1, -1)", f.spoken(1, -1), 10);
        tell(f, "S=aaaa;S=T;T=TTTT;T=TTTT");
        int[] lengths = {4, 4, 4, -2};
        for (int t = 1; t <= 4; t++) {
            due(37, "spoken(" + t + ", -1)", f.spoken(t, -1), lengths[t - 1]);
        }
    }

    private static void count() {
        PackedForest f = of("B=Bb;B=;S=a", "abc");
        f.strike(2);
        f.ban(0, 0, 1);
        f.filter(1);
        f.seed(123);
        f.feed(0, 0, 0, 0, 0);
        int[] counts = {3, B, 3, 4, 1, 5, 6, 123, 20};
        for (int what = 0; what < counts.length; what++) {
            due(38, "count(" + what + ")", f.count(what), counts[what]);
        }
        for (int no : new int[] {-1, 9, MIN, MAX}) {
            due(38, "count(" + no + ")", f.count(no), -1);
        }
    }

    private static void images() {
        PackedForest f = new PackedForest();
        due(39, "image(3) of no grammar", f.image(3), 0);
        for (int no : new int[] {-1, 4, MIN, MAX}) {
            due(39, "image(" + no + ")", f.image(no), -1);
            due(40, "back(" + no + ")", f.back(no), -1);
        }
        due(40, "back(0), never made", f.back(0), -1);
        tell(f, "S=SS:2<;S=a;S=b");
        readAll(f, "aba");
        f.strike(2);
        f.ban(0, 0, 0);
        f.filter(0);
        f.seed(42);
        due(39, "image(0)", f.image(0), 3);
        f.feed(0, 0, 0, 0, 0);
        f.undo();
        f.undo();
        f.undo();
        f.drop();
        f.seed(43);
        due(39, "image(1)", f.image(1), 2);
        tell(f, "A=a;A=AA");
        f.feed(1, 1, 1, 1, 1);
        due(40, "back(0)", f.back(0), 3);
        int[] counts = {3, S, 3, 4, 1, 6, 6, 42, 20};
        for (int what = 0; what < counts.length; what++) {
            due(40, "count(" + what + ")", f.count(what), counts[what]);
        }
        due(40, "states()", f.states(), 4);
        due(40, "derives(S, 0, 1)", f.derives(S, 0, 1), 1);
        due(40, "derives(S, 1, 2)", f.derives(S, 1, 2), 0);
        due(40, "undo()", f.undo(), 5);
        due(40, "filters", f.count(5), 7);
        due(40, "undo()", f.undo(), 4);
        due(40, "bans", f.count(4), 0);
        due(40, "undo()", f.undo(), 3);
        due(40, "struck", f.count(3), 0);
        due(40, "derives(S, 1, 2)", f.derives(S, 1, 2), 1);
        due(40, "back(1)", f.back(1), 2);
        due(40, "x", f.count(7), 43);
        due(40, "back(0) once more: as it was", f.back(0), 3);
        due(40, "acts", f.count(6), 6);
        due(40, "back(3): no grammar", f.back(3), 0);
        due(40, "no grammar", f.count(0), 0);
        due(40, "no states", f.states(), -1);
        due(40, "x of the new object", f.count(7), 0);
        due(40, "the others are there", f.back(1), 2);
    }

    /** What hangs on the text, the rules and the filters: asked, so that it may be kept. */
    private static String all(PackedForest f) {
        int n = f.count(2);
        StringBuilder answers = new StringBuilder();
        int[] each = {f.facts(0), f.facts(1), f.firsts(S), f.follows(S), f.shortest(S), f.states(), f.clashes(), f.alive(n, -1),
            f.links(n, -1), f.expects(n), f.derives(S, 0, n), f.trees(S, 0, n), f.piece(0, 0, n), f.ways(0, 0, n),
            f.forest(0), f.forest(1), f.forest(2), f.forest(3), f.smallest(), f.tree(0, 0), f.tree(1, 2), f.whole(), f.mend()};
        for (int answer : each) {
            answers.append(answer).append(' ');
        }
        return answers.toString();
    }

    private static void sameAs(int promise, PackedForest f, PackedForest fresh) {
        String got = all(f);
        String want = all(fresh);
        due(promise, got + "(first is " + want + ")", got.equals(want) ? 1 : 0, 1);
    }

    /** What was asked before an act never shows in what is asked behind it. */
    private static void askedBefore() {
        String grammar = "S=SS:2<;S=a:1;S=b;S=A;A=ab:3";
        PackedForest f = of(grammar, "abab");
        all(f);
        f.drop();
        sameAs(17, f, of(grammar, "aba"));
        f.drop();
        f.read(0);
        sameAs(16, f, of(grammar, "aba"));
        f.drop();
        f.drop();
        f.read(0);
        f.read(0);
        sameAs(16, f, of(grammar, "aaa"));
        f.change(1, 1);
        sameAs(18, f, of(grammar, "aba"));
        f.undo();
        sameAs(22, f, of(grammar, "aaa"));
        f.undo();
        f.undo();
        f.undo();
        sameAs(22, f, of(grammar, "ab"));
        f.undo();
        f.undo();
        f.undo();
        sameAs(22, f, of(grammar, "aba"));
        f.undo();
        sameAs(22, f, of(grammar, "abab"));
        askedBeforeActs(grammar, f);
    }

    private static void askedBeforeActs(String grammar, PackedForest f) {
        for (int filter = 0; filter < 3; filter++) {
            PackedForest fresh = of(grammar, "abab");
            f.filter(filter);
            fresh.filter(filter);
            sameAs(21, f, fresh);
            f.undo();
            sameAs(22, f, of(grammar, "abab"));
        }
        PackedForest banned = of(grammar, "abab");
        banned.ban(0, 0, 3);
        f.ban(0, 0, 3);
        sameAs(20, f, banned);
        due(28, "trees(S, 0, 4), banned", f.trees(S, 0, 4), 0);
        f.undo();
        due(28, "trees(S, 0, 4), undone", f.trees(S, 0, 4), 1);
        sameAs(22, f, of(grammar, "abab"));
        PackedForest struck = of(grammar, "abab");
        struck.strike(3);
        f.strike(3);
        sameAs(19, f, struck);
        f.image(0);
        f.undo();
        sameAs(22, f, of(grammar, "abab"));
        f.back(0);
        sameAs(40, f, struck);
        String other = "S=aS;S=b;B=";
        tell(f, other);
        sameAs(4, f, of(other, ""));
        due(4, "no rank is left", f.rule(0, 2), 0);
        due(4, "no side is left", f.rule(0, 3), 0);
        readAll(f, "aab");
        sameAs(16, f, of(other, "aab"));
        f.back(0);
        sameAs(40, f, struck);
        for (int place = 0; place < 4; place++) {
            due(40, "letter(" + place + ")", f.letter(place), place % 2);
        }
    }

    private static void linksFirst() {
        due(25, "links(2, -1), asked first", of("S=SS;S=a", "aa").links(2, -1), 3);
        due(26, "expects(2), asked first", of("S=SS;S=a", "aa").expects(2), 1);
        due(33, "tree(2, 1), asked first", of("S=SS;S=a", "aa").tree(2, 1), 1);
        due(31, "forest(2), asked first", of("S=SS;S=a", "aaa").forest(2), 1);
        due(29, "piece(1, 1, 2), asked first", of("S=SS;S=a", "aa").piece(1, 1, 2), 1);
        due(30, "ways(0, 0, 2), asked first", of("S=SS;S=a", "aa").ways(0, 0, 2), 1);
        due(14, "done(2), asked first", of("S=SS;S=a", "aa").done(2), 2);
    }

    /** Numbers from everywhere to every method, with a grammar and without: nothing is thrown. */
    private static void wrongEverywhere() {
        int[] odd = {MIN, MIN + 1, -3, -2, -1, 0, 1, 12, 13, 25, 26, 31, 32, 33, 44, 51, 52, 63, 64, 90, 91, 400, MAX - 1, MAX};
        for (int grammar = 0; grammar < 2; grammar++) {
            for (int a : odd) {
                for (int b : odd) {
                    PackedForest f = grammar == 0 ? new PackedForest() : of("S=SS;S=a;S=A;A=", "aaa");
                    f.rule(a, b);
                    f.symbol(a, b);
                    f.goes(a, b);
                    f.points(a, b);
                    f.change(a, b);
                    f.alive(a, b);
                    f.links(a, b);
                    f.tree(a, b);
                    f.spoken(a, b);
                    for (int c : odd) {
                        f.derives(a, b, c);
                        f.trees(a, b, c);
                        f.piece(a, b, c);
                        f.ways(a, b, c);
                        f.ban(a, b, c);
                    }
                    f.facts(a);
                    f.firsts(a);
                    f.follows(a);
                    f.shortest(a);
                    f.done(a);
                    f.letter(a);
                    f.expects(a);
                    f.forest(a);
                    f.count(a);
                    f.read(a);
                    f.strike(a);
                    f.filter(a);
                    f.image(a);
                    f.seed(a);
                    f.back(b);
                    f.end(a);
                    f.feed(a, b, a, b, a);
                    f.grammar();
                    due(16, "an object that goes on", f.count(8), 0);
                }
            }
        }
    }
}
