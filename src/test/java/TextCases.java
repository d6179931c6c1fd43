/** Boundary cases of promises 16 to 26: acts, what can be undone, the text, levels and links. */
final class TextCases {
    private static final int A = 26;
    private static final int S = 44;
    private static final String STRIKE_TO_91 = "S=bbbS;A=bbaA;B=aaA;S=abB;A=bbA;A=abaS;A=abA;S=abaA;B=ba;B=abA;B=aaB;A=babB";
    private static final String STRIKE_TO_90 = "S=baC;A=aB;B=baS;C=abA;S=aabC;A=baaA;A=aA;C=bbba;S=aaaA;S=abbS;A=bS;B=aA";
    private static final String STATES_90 = "S=aS;A=bB;B=baC;C=babC;A=bbbB;C=aA;B=abbC;C=bbS;C=bC;S=bbbB;B=bbbB;S=abb";
    private static final int ACTS = 6;

    private TextCases() { }

    static void add() {
        read();
        drop();
        change();
        strike();
        strikeRefused();
        ban();
        banRefused();
        filter();
        undo();
        undoOfEach();
        refusedActs();
        letter();
        alive();
        aliveOrNot();
        links();
        expects();
    }

    // ---- 16 to 18

    private static void read() {
        Cases.add(16, "the SMALL is the last one then: how many SMALLS the TEXT has", () -> {
            PackedForest f = Cases.of("S=a");
            Cases.due("read(0)", f.read(0), 1);
            Cases.due("read(25)", f.read(25), 2);
            Cases.due("letter(0)", f.letter(0), 0);
            Cases.due("letter(1)", f.letter(1), 25);
        });
        Cases.add(16, "12 SMALLS, and no 13th", () -> {
            PackedForest f = Cases.of("S=a", "abcdefghijk");
            Cases.due("the 12th", f.read(11), 12);
            Cases.due("a 13th", f.read(12), -1);
            Cases.due("count(2)", f.count(2), 12);
            Cases.due("letter(11)", f.letter(11), 11);
            Cases.due("letter(12)", f.letter(12), -1);
            f.drop();
            Cases.due("the 12th anew", f.read(12), 12);
        });
        Cases.add(16, "NONE without a SMALL", () -> {
            PackedForest f = Cases.of("S=a");
            for (int small : Cases.outside(25)) {
                Cases.due("read(" + small + ")", f.read(small), -1);
            }
            Cases.due("read(44)", f.read(S), -1);
            Cases.due("count(2)", f.count(2), 0);
        });
        Cases.add(16, "NONE without a GRAMMAR", () -> {
            PackedForest f = new PackedForest();
            Cases.due("read(0)", f.read(0), -1);
            Cases.due("count(2)", f.count(2), 0);
            Cases.due("count(6)", f.count(ACTS), 0);
        });
        Cases.add(16, "a SMALL that is in no RULE is one, too", () ->
            Cases.due("read(25)", Cases.of("S=a").read(25), 1));
    }

    private static void drop() {
        Cases.add(17, "the last one is no more: which it was", () -> {
            PackedForest f = Cases.of("S=a", "az");
            Cases.due("drop()", f.drop(), 25);
            Cases.due("letter(1)", f.letter(1), -1);
            Cases.due("letter(0)", f.letter(0), 0);
            Cases.due("drop()", f.drop(), 0);
            Cases.due("count(2)", f.count(2), 0);
        });
        Cases.add(17, "NONE, and nothing happens, if the TEXT is empty", () -> {
            PackedForest f = Cases.of("S=a");
            Cases.due("drop() of none", f.drop(), -1);
            Cases.due("count(2)", f.count(2), 0);
            Cases.due("count(6)", f.count(ACTS), 0);
            f.read(3);
            f.drop();
            Cases.due("drop() of none left", f.drop(), -1);
            Cases.due("count(6)", f.count(ACTS), 2);
        });
        Cases.add(17, "the twelfth", () -> {
            PackedForest f = Cases.of("S=a", "abcdefghijkl");
            Cases.due("drop()", f.drop(), 11);
            Cases.due("count(2)", f.count(2), 11);
        });
        Cases.add(17, "NONE without a GRAMMAR", () -> Cases.due("drop()", new PackedForest().drop(), -1));
    }

    private static void change() {
        Cases.add(18, "at the first and the last place: which it was", () -> {
            PackedForest f = Cases.of("S=a", "abcdefghijkl");
            Cases.due("change(0, 25)", f.change(0, 25), 0);
            Cases.due("change(11, 0)", f.change(11, 0), 11);
            Cases.due("letter(0)", f.letter(0), 25);
            Cases.due("letter(11)", f.letter(11), 0);
            Cases.due("letter(5)", f.letter(5), 5);
            Cases.due("count(2)", f.count(2), 12);
        });
        Cases.add(18, "NONE without another SMALL: the same", () -> {
            PackedForest f = Cases.of("S=a", "az");
            Cases.due("change(0, 0)", f.change(0, 0), -1);
            Cases.due("change(1, 25)", f.change(1, 25), -1);
            Cases.due("count(6)", f.count(ACTS), 2);
        });
        Cases.add(18, "NONE without a SMALL", () -> {
            PackedForest f = Cases.of("S=a", "b");
            for (int small : Cases.outside(25)) {
                Cases.due("change(0, " + small + ")", f.change(0, small), -1);
            }
            Cases.due("letter(0)", f.letter(0), 1);
            Cases.due("count(6)", f.count(ACTS), 1);
        });
        Cases.add(18, "NONE without that place", () -> {
            PackedForest f = Cases.of("S=a", "bb");
            for (int place : Cases.outside(1)) {
                Cases.due("change(" + place + ", 0)", f.change(place, 0), -1);
            }
            f.drop();
            Cases.due("change(1, 0) of one that is no more", f.change(1, 0), -1);
            Cases.due("count(6)", f.count(ACTS), 3);
        });
        Cases.add(18, "NONE of 12 at 12", () ->
            Cases.due("change(12, 25)", Cases.of("S=a", "a".repeat(12)).change(12, 25), -1));
        Cases.add(18, "NONE, if the TEXT is empty, or without a GRAMMAR", () -> {
            Cases.due("change(0, 0)", Cases.of("S=a").change(0, 0), -1);
            Cases.due("change(0, 0)", new PackedForest().change(0, 0), -1);
        });
        Cases.add(18, "what hangs on the SMALL at that place, first, middle and last", () -> {
            PackedForest f = Cases.of("S=SS;S=a", "bbb");
            for (int place = 0; place < 3; place++) {
                f.change(place, 0);
                Cases.due("whole()", f.whole(), place + 1);
            }
            f.change(0, 1);
            Cases.due("derives(S, 1, 3)", f.derives(S, 1, 3), 1);
            Cases.due("derives(S, 0, 3)", f.derives(S, 0, 3), 0);
        });
    }

    // ---- 19

    private static void strike() {
        Cases.add(19, "how many STATES there are then", () -> {
            PackedForest f = Cases.of("S=abc;S=de");
            Cases.due("strike(0)", f.strike(0), 3);
            Cases.due("states()", f.states(), 3);
            Cases.due("strike(1)", f.strike(1), 1);
            Cases.due("strike(0), it was STRUCK", f.strike(0), 4);
            Cases.due("strike(1), it was STRUCK", f.strike(1), 6);
        });
        Cases.add(19, "is STRUCK, or, if it was, not", () -> {
            PackedForest f = Cases.of("S=a", "a");
            f.strike(0);
            Cases.due("count(3)", f.count(3), 1);
            Cases.due("derives(S, 0, 1)", f.derives(S, 0, 1), 0);
            f.strike(0);
            Cases.due("count(3)", f.count(3), 0);
            Cases.due("derives(S, 0, 1)", f.derives(S, 0, 1), 1);
        });
        Cases.add(19, "RULES 0 and 11, all 12", () -> {
            PackedForest f = Cases.of("S=a;".repeat(11) + "S=a");
            for (int rule = 0; rule < 12; rule++) {
                Cases.due("strike(" + rule + ")", f.strike(rule), rule == 11 ? 1 : 2);
            }
            Cases.due("count(3)", f.count(3), 4095);
            Cases.due("count(0)", f.count(0), 12);
        });
        Cases.add(19, "the START is the one it was", () -> {
            PackedForest f = Cases.of("S=a;A=b");
            f.strike(0);
            Cases.due("count(1)", f.count(1), S);
            Cases.due("states()", f.states(), 1);
        });
        Cases.add(19, "the numbers are those they were", () -> {
            PackedForest f = Cases.of("S=a;S=b;S=c", "c");
            f.strike(0);
            Cases.due("symbol(2, 0)", f.symbol(2, 0), 2);
            Cases.due("piece(2, 0, 1)", f.piece(2, 0, 1), 1);
            Cases.due("tree(0, 0)", f.tree(0, 0), 2);
        });
        Cases.add(19, "a CAPITAL all of whose RULES are STRUCK is on a LEFT side, and derives nothing", () -> {
            PackedForest f = Cases.of("S=A;A=;A=a", "a");
            f.strike(1);
            f.strike(2);
            Cases.due("facts(5)", f.facts(5), Cases.set("SA"));
            Cases.due("derives(A, 0, 1)", f.derives(A, 0, 1), 0);
            Cases.due("derives(A, 0, 0)", f.derives(A, 0, 0), 0);
            Cases.due("derives(S, 0, 1)", f.derives(S, 0, 1), 0);
            Cases.due("trees(A, 0, 0)", f.trees(A, 0, 0), 0);
            Cases.due("firsts(A)", f.firsts(A), 0);
            Cases.due("shortest(A)", f.shortest(A), -2);
        });
        Cases.add(19, "NONE, and nothing happens, without that RULE", () -> {
            PackedForest f = Cases.of("S=a;S=b");
            for (int rule : Cases.outside(1)) {
                Cases.due("strike(" + rule + ")", f.strike(rule), -1);
            }
            Cases.due("strike(32)", f.strike(32), -1);
            Cases.due("count(3)", f.count(3), 0);
            Cases.due("count(6)", f.count(ACTS), 0);
        });
        Cases.add(19, "NONE of 12 RULES at 12", () -> {
            PackedForest f = Cases.of("S=a;".repeat(11) + "S=a");
            Cases.due("strike(12)", f.strike(12), -1);
        });
        Cases.add(19, "NONE without a GRAMMAR", () -> Cases.due("strike(0)", new PackedForest().strike(0), -1));
    }

    private static void strikeRefused() {
        Cases.add(19, "90 STATES are not more than 90", () -> {
            PackedForest f = Cases.of(STRIKE_TO_90);
            Cases.due("states()", f.states(), 86);
            Cases.due("strike(6)", f.strike(6), 90);
            Cases.due("count(3)", f.count(3), 64);
            Cases.due("states()", f.states(), 90);
        });
        Cases.add(19, "-2, and nothing happens, if there would be 91", () -> {
            PackedForest f = Cases.of(STRIKE_TO_91, "bbb");
            Cases.due("states()", f.states(), 86);
            int alive = f.alive(3, -1);
            Cases.due("strike(3)", f.strike(3), -2);
            Cases.counts(f, 12, S, 3, 0, 0, 7, 3, 0, 0);
            Cases.due("rule(3, 4)", f.rule(3, 4), 0);
            Cases.due("states()", f.states(), 86);
            Cases.due("points(0, 3)", f.points(0, 3), 1);
            Cases.due("alive(3, -1)", f.alive(3, -1), alive);
            Cases.due("undo() of the last READ", f.undo(), 2);
        });
        Cases.add(19, "-2, and nothing happens, if one was STRUCK and would not be any more", () -> {
            PackedForest f = Cases.of(STRIKE_TO_91);
            Cases.due("strike(0)", f.strike(0), 55);
            Cases.due("strike(3)", f.strike(3), 50);
            Cases.due("strike(0) once more", f.strike(0), -2);
            Cases.due("count(3)", f.count(3), 9);
            Cases.due("states()", f.states(), 50);
            Cases.due("count(6)", f.count(ACTS), 2);
            Cases.due("strike(3) once more", f.strike(3), 55);
            Cases.due("strike(0) now", f.strike(0), 86);
        });
        Cases.add(19, "refused twice, then another one", () -> {
            PackedForest f = Cases.of(STRIKE_TO_91);
            Cases.due("strike(3)", f.strike(3), -2);
            Cases.due("strike(3)", f.strike(3), -2);
            Cases.due("strike(0)", f.strike(0), f.states());
            Cases.due("count(3)", f.count(3), 1);
        });
    }

    // ---- 20

    private static void ban() {
        Cases.add(20, "a BAN: how many there are then", () -> {
            PackedForest f = Cases.of("S=SaS;S=b");
            Cases.due("ban(0, 0, 0)", f.ban(0, 0, 0), 1);
            Cases.due("ban(0, 2, 0)", f.ban(0, 2, 0), 2);
            Cases.due("ban(0, 0, 1)", f.ban(0, 0, 1), 3);
            Cases.due("count(4)", f.count(4), 3);
        });
        Cases.add(20, "is it a BAN, it is no more", () -> {
            PackedForest f = Cases.of("S=SS;S=a", "aa");
            f.ban(0, 1, 1);
            f.ban(0, 0, 1);
            Cases.due("ban(0, 1, 1) again", f.ban(0, 1, 1), 1);
            Cases.due("ban(0, 0, 1) again", f.ban(0, 0, 1), 0);
            Cases.due("trees(S, 0, 2)", f.trees(S, 0, 2), 1);
            Cases.due("ban(0, 1, 1) a third time", f.ban(0, 1, 1), 1);
            Cases.due("trees(S, 0, 2)", f.trees(S, 0, 2), 0);
        });
        Cases.add(20, "PLACE 3, RULE 11", () -> {
            PackedForest f = Cases.of("S=a;".repeat(11) + "S=aaaS", "aaaa");
            Cases.due("trees(S, 0, 4)", f.trees(S, 0, 4), 11);
            Cases.due("ban(11, 3, 10)", f.ban(11, 3, 10), 1);
            Cases.due("trees(S, 0, 4)", f.trees(S, 0, 4), 10);
            Cases.due("ban(11, 3, 11)", f.ban(11, 3, 11), 2);
            Cases.due("ban(11, 3, 0)", f.ban(11, 3, 0), 3);
            Cases.due("trees(S, 0, 4)", f.trees(S, 0, 4), 9);
        });
        Cases.add(20, "8 at most", () -> {
            PackedForest f = eight();
            Cases.due("count(4)", f.count(4), 8);
            Cases.due("a ninth", f.ban(0, 2, 0), -1);
            Cases.due("count(4)", f.count(4), 8);
            Cases.due("count(6)", f.count(ACTS), 8);
        });
        Cases.add(20, "of 8 one is no more, and another one comes", () -> {
            PackedForest f = eight();
            Cases.due("ban(0, 0, 0) again", f.ban(0, 0, 0), 7);
            Cases.due("ban(0, 2, 0)", f.ban(0, 2, 0), 8);
            Cases.due("a ninth", f.ban(0, 0, 0), -1);
        });
        Cases.add(20, "the ninth does nothing to the trees", () -> {
            PackedForest f = Cases.of("S=AAAA;A=;A=;A=;A=");
            for (int place = 0; place < 4; place++) {
                f.ban(0, place, 1);
                f.ban(0, place, 2);
            }
            Cases.due("trees(S, 0, 0)", f.trees(S, 0, 0), 16);
            Cases.due("a ninth", f.ban(0, 0, 3), -1);
            Cases.due("trees(S, 0, 0)", f.trees(S, 0, 0), 16);
        });
        Cases.add(20, "of a RULE that is STRUCK, below one that is STRUCK", () -> {
            PackedForest f = Cases.of("S=SS;S=a");
            f.strike(0);
            f.strike(1);
            Cases.due("ban(0, 0, 1)", f.ban(0, 0, 1), 1);
            Cases.due("ban(0, 0, 0)", f.ban(0, 0, 0), 2);
        });
    }

    /** Eight bans of the rule 0, below it the rules 0 to 3 at the places 0 and 1. */
    private static PackedForest eight() {
        PackedForest f = Cases.of("S=SSS;S=a;S=b;S=c");
        for (int k = 0; k < 8; k++) {
            f.ban(0, k % 2, k / 2);
        }
        return f;
    }

    private static void banRefused() {
        Cases.add(20, "NONE without that RULE", () -> {
            PackedForest f = Cases.of("S=S;S=a");
            for (int rule : Cases.outside(1)) {
                Cases.due("ban(" + rule + ", 0, 0)", f.ban(rule, 0, 0), -1);
            }
            Cases.due("count(6)", f.count(ACTS), 0);
        });
        Cases.add(20, "NONE without a RULE below", () -> {
            PackedForest f = Cases.of("S=S;S=a");
            for (int below : Cases.outside(1)) {
                Cases.due("ban(0, 0, " + below + ")", f.ban(0, 0, below), -1);
            }
            Cases.due("count(4)", f.count(4), 0);
        });
        Cases.add(20, "NONE without a PLACE", () -> {
            PackedForest f = Cases.of("S=SSSS;S=S;S=");
            int[] last = {3, 0, -1};
            for (int rule = 0; rule < 3; rule++) {
                for (int place : Cases.outside(last[rule])) {
                    Cases.due("ban(" + rule + ", " + place + ", 0)", f.ban(rule, place, 0), -1);
                }
            }
            Cases.due("ban(0, 3, 0)", f.ban(0, 3, 0), 1);
        });
        Cases.add(20, "NONE where it has no CAPITAL", () -> {
            PackedForest f = Cases.of("S=aSb;S=s");
            Cases.due("ban(0, 0, 0)", f.ban(0, 0, 0), -1);
            Cases.due("ban(0, 2, 0)", f.ban(0, 2, 0), -1);
            Cases.due("ban(1, 0, 0)", f.ban(1, 0, 0), -1);
            Cases.due("ban(0, 1, 0)", f.ban(0, 1, 0), 1);
        });
        Cases.add(20, "NONE, if the RULE below has not that LEFT", () -> {
            PackedForest f = Cases.of("S=AS;S=a;A=a");
            Cases.due("ban(0, 0, 0)", f.ban(0, 0, 0), -1);
            Cases.due("ban(0, 1, 2)", f.ban(0, 1, 2), -1);
            Cases.due("ban(0, 0, 2)", f.ban(0, 0, 2), 1);
            Cases.due("ban(0, 1, 1)", f.ban(0, 1, 1), 2);
            Cases.due("count(6)", f.count(ACTS), 2);
        });
        Cases.add(20, "NONE without a GRAMMAR", () -> Cases.due("ban(0, 0, 0)", new PackedForest().ban(0, 0, 0), -1));
    }

    // ---- 21 and 22

    private static void filter() {
        Cases.add(21, "FILTER 0, 1 or 2 is off, if it was on, else on", () -> {
            int[][] runs = {{0, 6}, {1, 4}, {2, 0}, {0, 1}, {1, 3}, {2, 7}, {2, 3}, {1, 1}, {0, 0}};
            PackedForest f = Cases.of("S=a");
            for (int[] run : runs) {
                Cases.due("filter(" + run[0] + ")", f.filter(run[0]), run[1]);
                Cases.due("count(5)", f.count(5), run[1]);
            }
        });
        Cases.add(21, "NONE, and nothing happens, without one", () -> {
            PackedForest f = Cases.of("S=a");
            for (int filter : Cases.outside(2)) {
                Cases.due("filter(" + filter + ")", f.filter(filter), -1);
            }
            Cases.due("filter(32)", f.filter(32), -1);
            Cases.due("count(5)", f.count(5), 7);
            Cases.due("count(6)", f.count(ACTS), 0);
        });
        Cases.add(21, "NONE without a GRAMMAR", () -> {
            PackedForest f = new PackedForest();
            for (int filter = 0; filter < 3; filter++) {
                Cases.due("filter(" + filter + ")", f.filter(filter), -1);
            }
            Cases.due("count(5)", f.count(5), 7);
        });
    }

    private static void undo() {
        Cases.add(22, "-2: none can, of a new object", () -> Cases.due("undo()", new PackedForest().undo(), -2));
        Cases.add(22, "-2: none can, of a new GRAMMAR", () -> Cases.due("undo()", Cases.of("S=a").undo(), -2));
        Cases.add(22, "-2, and nothing happens: none can any more", () -> {
            PackedForest f = Cases.of("S=a", "ab");
            Cases.due("undo()", f.undo(), 1);
            Cases.due("undo()", f.undo(), 0);
            Cases.due("undo()", f.undo(), -2);
            Cases.counts(f, 1, S, 0, 0, 0, 7, 0, 0, 0);
        });
        Cases.add(22, "the last 20", () -> {
            PackedForest f = Cases.of("S=a", "a");
            for (int k = 0; k < 20; k++) {
                f.change(0, k + 1);
            }
            Cases.due("count(6)", f.count(ACTS), 20);
            for (int k = 19; k >= 0; k--) {
                Cases.due("undo()", f.undo(), k);
                Cases.due("letter(0)", f.letter(0), k);
            }
            Cases.due("undo() of the READ, the 21st", f.undo(), -2);
            Cases.due("count(2)", f.count(2), 1);
        });
        Cases.add(22, "exactly 20", () -> {
            PackedForest f = Cases.of("S=a", "a");
            for (int k = 0; k < 19; k++) {
                f.change(0, k + 1);
            }
            Cases.due("count(6)", f.count(ACTS), 20);
            for (int k = 19; k >= 0; k--) {
                Cases.due("undo()", f.undo(), k);
            }
            Cases.due("count(2)", f.count(2), 0);
        });
        Cases.add(22, "of 25 the first five stay", () -> {
            PackedForest f = Cases.of("S=a", "aaaaa");
            for (int k = 0; k < 20; k++) {
                f.filter(1);
            }
            for (int k = 0; k < 20; k++) {
                f.undo();
            }
            Cases.due("undo()", f.undo(), -2);
            Cases.due("count(2)", f.count(2), 5);
        });
        Cases.add(22, "behind an UNDONE one there is room for one", () -> {
            PackedForest f = Cases.of("S=a", "a");
            for (int k = 0; k < 20; k++) {
                f.change(0, k + 1);
            }
            f.undo();
            f.change(0, 25);
            Cases.due("count(6)", f.count(ACTS), 20);
            f.undo();
            Cases.due("letter(0)", f.letter(0), 19);
            Cases.due("count(6)", f.count(ACTS), 19);
        });
        Cases.add(22, "the last first", () -> {
            PackedForest f = Cases.of("S=a", "a");
            f.change(0, 5);
            f.filter(0);
            f.change(0, 7);
            f.undo();
            Cases.due("letter(0)", f.letter(0), 5);
            Cases.due("count(5)", f.count(5), 6);
            f.undo();
            Cases.due("letter(0)", f.letter(0), 5);
            Cases.due("count(5)", f.count(5), 7);
        });
        Cases.add(22, "it is no ACT itself", () -> {
            PackedForest f = Cases.of("S=a", "ab");
            f.undo();
            f.undo();
            Cases.due("undo() does not bring it again", f.undo(), -2);
            Cases.due("count(2)", f.count(2), 0);
        });
        Cases.add(22, "seed, feed, end, image are no ACTS", () -> {
            PackedForest f = Cases.of("S=a", "a");
            f.seed(5);
            f.feed(0, 0, 0, 0, 0);
            f.end(3);
            f.image(0);
            Cases.due("count(6)", f.count(ACTS), 1);
            Cases.due("undo()", f.undo(), 0);
            Cases.counts(f, 1, S, 0, 0, 0, 7, 0, 5, 3);
        });
    }

    private static void undoOfEach() {
        Cases.add(22, "READ is UNDONE", () -> {
            PackedForest f = Cases.of("S=a", "abcdefghijkl");
            Cases.due("undo()", f.undo(), 11);
            Cases.due("count(2)", f.count(2), 11);
            Cases.due("letter(11)", f.letter(11), -1);
            Cases.due("read(0) again", f.read(0), 12);
        });
        Cases.add(22, "DROP is UNDONE", () -> {
            PackedForest f = Cases.of("S=a", "az");
            f.drop();
            f.drop();
            f.undo();
            Cases.due("letter(0)", f.letter(0), 0);
            f.undo();
            Cases.due("letter(1)", f.letter(1), 25);
            Cases.due("count(2)", f.count(2), 2);
        });
        Cases.add(22, "CHANGE is UNDONE, at places 0 and 11, of a and z", () -> {
            PackedForest f = Cases.of("S=a", "abbbbbbbbbbz");
            f.change(0, 25);
            f.change(11, 0);
            f.undo();
            Cases.due("letter(11)", f.letter(11), 25);
            Cases.due("letter(0)", f.letter(0), 25);
            f.undo();
            Cases.due("letter(0)", f.letter(0), 0);
        });
        Cases.add(22, "STRIKE is UNDONE, and one that made it be STRUCK no more", () -> {
            PackedForest f = Cases.of("S=a;S=bc");
            f.strike(1);
            f.strike(1);
            f.undo();
            Cases.due("count(3)", f.count(3), 2);
            Cases.due("states()", f.states(), 2);
            f.undo();
            Cases.due("count(3)", f.count(3), 0);
            Cases.due("states()", f.states(), 4);
        });
        Cases.add(22, "BAN is UNDONE, and one that made it be no more", () -> {
            PackedForest f = Cases.of("S=SS;S=a", "aa");
            f.ban(0, 1, 1);
            f.ban(0, 1, 1);
            f.undo();
            Cases.due("count(4)", f.count(4), 1);
            Cases.due("trees(S, 0, 2)", f.trees(S, 0, 2), 0);
            f.undo();
            Cases.due("count(4)", f.count(4), 0);
            Cases.due("trees(S, 0, 2)", f.trees(S, 0, 2), 1);
        });
        Cases.add(22, "SWITCH is UNDONE, off and on", () -> {
            for (int filter = 0; filter < 3; filter++) {
                PackedForest f = Cases.of("S=a");
                f.filter(filter);
                f.filter(filter);
                f.undo();
                Cases.due("count(5)", f.count(5), 7 & ~(1 << filter));
                f.undo();
                Cases.due("count(5)", f.count(5), 7);
            }
        });
    }

    /** Calls that are refused are no acts: nothing of them can be undone. */
    private static void refusedActs() {
        Cases.add(22, "what was refused is no ACT", () -> {
            PackedForest f = Cases.of(STRIKE_TO_91, "abcdefghijkl");
            f.read(0);
            f.read(-1);
            f.change(0, 0);
            f.change(12, 0);
            f.change(0, 26);
            f.strike(12);
            f.strike(3);
            f.ban(0, 0, 0);
            f.ban(0, 3, 1);
            f.filter(3);
            Cases.due("count(6)", f.count(ACTS), 12);
            Cases.due("undo()", f.undo(), 11);
            Cases.due("count(2)", f.count(2), 11);
        });
    }

    // ---- 23

    private static void letter() {
        Cases.add(23, "the SMALL at places 0 to 11", () -> {
            PackedForest f = Cases.of("S=a", "zyxwvutsrqpa");
            for (int place = 0; place < 11; place++) {
                Cases.due("letter(" + place + ")", f.letter(place), 25 - place);
            }
            Cases.due("letter(11)", f.letter(11), 0);
            for (int place : Cases.outside(11)) {
                Cases.due("letter(" + place + ")", f.letter(place), -1);
            }
        });
        Cases.add(23, "NONE behind the last one", () -> {
            PackedForest f = Cases.of("S=a", "ab");
            for (int place : Cases.outside(1)) {
                Cases.due("letter(" + place + ")", f.letter(place), -1);
            }
        });
        Cases.add(23, "NONE of an empty TEXT, of one that is no more, without a GRAMMAR", () -> {
            PackedForest f = Cases.of("S=a");
            Cases.due("letter(0)", f.letter(0), -1);
            f.read(3);
            f.drop();
            Cases.due("letter(0)", f.letter(0), -1);
            Cases.due("letter(0)", new PackedForest().letter(0), -1);
        });
    }

    // ---- 24

    private static void alive() {
        Cases.add(24, "LEVELS 0 to as many as they are", () -> {
            PackedForest f = Cases.of("S=aS", "aaaaaaaaaaaa");
            for (int level = 0; level <= 12; level++) {
                Cases.due("alive(" + level + ", -1)", f.alive(level, -1), 1);
            }
            for (int level : Cases.outside(12)) {
                Cases.due("alive(" + level + ", -1)", f.alive(level, -1), -1);
                Cases.due("alive(" + level + ", 0)", f.alive(level, 0), -1);
            }
        });
        Cases.add(24, "LEVEL 0 of an empty TEXT, and no other", () -> {
            PackedForest f = Cases.of("S=a");
            Cases.due("alive(0, -1)", f.alive(0, -1), 1);
            Cases.due("alive(0, 0)", f.alive(0, 0), 1);
            Cases.due("alive(0, 1)", f.alive(0, 1), 0);
            Cases.due("alive(1, -1)", f.alive(1, -1), -1);
        });
        Cases.add(24, "NONE without that STATE", () -> {
            PackedForest f = Cases.of("S=ab", "a");
            for (int state : new int[] {-2, 3, 4, 89, 90, Cases.MIN, Cases.MAX}) {
                Cases.due("alive(0, " + state + ")", f.alive(0, state), -1);
            }
            Cases.due("alive(1, 2), the last", f.alive(1, 2), 0);
            Cases.due("alive(1, 1)", f.alive(1, 1), 1);
        });
        Cases.add(24, "state NONE: how many are", () -> {
            PackedForest f = Cases.of("S=SS;S=a", "aa");
            int[] wants = {1, 2, 3};
            for (int level = 0; level < 3; level++) {
                Cases.due("alive(" + level + ", -1)", f.alive(level, -1), wants[level]);
            }
        });
        Cases.add(24, "none are", () -> {
            PackedForest f = Cases.of("S=a", "ba");
            Cases.due("alive(1, -1)", f.alive(1, -1), 0);
            Cases.due("alive(2, -1)", f.alive(2, -1), 0);
            Cases.due("alive(2, 1)", f.alive(2, 1), 0);
        });
        Cases.add(24, "of 90 STATES and 12 SMALLS", () -> {
            PackedForest f = Cases.of(STATES_90, "aaaaaaaaaabb");
            Cases.due("states()", f.states(), 90);
            for (int level = 0; level <= 12; level++) {
                // Behind all of it there are S=abb. (with S=bb.bB) and S=aS., this one by an S that begins at 1 to 9.
                Cases.due("alive(" + level + ", -1)", f.alive(level, -1), level == 12 ? 2 : 1);
                Cases.due("links(" + level + ", -1)", f.links(level, -1), level == 12 ? 10 : level == 0 ? 0 : 1);
                Cases.due("expects(" + level + ")", f.expects(level), Cases.set(level < 11 ? "ab" : "b"));
            }
            int many = 0;
            for (int state = 0; state < 90; state++) {
                many += f.alive(12, state);
            }
            Cases.due("one by one", many, 2);
        });
        Cases.add(24, "of 90 STATES, all of them dead", () -> {
            PackedForest f = Cases.of(STATES_90, "cccccccccccc");
            Cases.due("alive(0, -1)", f.alive(0, -1), 1);
            for (int level = 1; level <= 12; level++) {
                Cases.due("alive(" + level + ", -1)", f.alive(level, -1), 0);
                Cases.due("links(" + level + ", -1)", f.links(level, -1), 0);
                Cases.due("expects(" + level + ")", f.expects(level), 0);
            }
            Cases.due("alive(0, 88)", f.alive(0, 88), 0);
            Cases.due("alive(12, 89)", f.alive(12, 89), 0);
            Cases.due("alive(12, 90)", f.alive(12, 90), -1);
        });
        Cases.add(24, "NONE without a GRAMMAR", () -> {
            Cases.due("alive(0, 0)", new PackedForest().alive(0, 0), -1);
            Cases.due("alive(0, -1)", new PackedForest().alive(0, -1), -1);
        });
    }

    private static void aliveOrNot() {
        Cases.add(24, "STATE 0 by no SYMBOLS at LEVEL 0 alone", () -> {
            PackedForest f = Cases.of("S=a;S=", "a");
            Cases.due("alive(0, 0)", f.alive(0, 0), 1);
            Cases.due("alive(1, 0)", f.alive(1, 0), 0);
        });
        Cases.add(24, "STATE 0, if all RULES of the START are STRUCK", () -> {
            PackedForest f = Cases.of("S=a", "a");
            f.strike(0);
            Cases.due("alive(0, 0)", f.alive(0, 0), 1);
            Cases.due("alive(1, -1)", f.alive(1, -1), 0);
        });
        Cases.add(24, "by an EMPTY CAPITAL at the same LEVEL", () -> {
            PackedForest f = Cases.of("S=ABb;A=;B=", "b");
            Cases.due("alive(0, -1)", f.alive(0, -1), 3);
            Cases.due("alive(1, -1)", f.alive(1, -1), 1);
        });
        Cases.add(24, "by a CAPITAL over more than one SMALL", () -> {
            PackedForest f = Cases.of("S=Ac;A=ab", "abc");
            int behindA = f.goes(0, A);
            Cases.due("alive(1, behind A)", f.alive(1, behindA), 0);
            Cases.due("alive(2, behind A)", f.alive(2, behindA), 1);
            Cases.due("alive(3, -1)", f.alive(3, -1), 1);
        });
        Cases.add(24, "not by a CAPITAL that derives no row there", () -> {
            PackedForest f = Cases.of("S=Ac;A=ab", "aac");
            Cases.due("alive(2, -1)", f.alive(2, -1), 0);
        });
        Cases.add(24, "whether the TEXT can go on or not", () -> {
            PackedForest f = Cases.of("S=aZ;Z=Z", "az");
            Cases.due("alive(1, -1)", f.alive(1, -1), 1);
            Cases.due("alive(2, -1)", f.alive(2, -1), 0);
        });
        Cases.add(24, "TREES that are not ALLOWED count", () -> {
            PackedForest f = Cases.of("S=A:2;A=a:1", "a");
            f.ban(0, 0, 1);
            Cases.due("trees(S, 0, 1)", f.trees(S, 0, 1), 0);
            Cases.due("alive(1, behind S or A)", f.alive(1, f.goes(0, A)), 1);
            Cases.due("alive(1, -1)", f.alive(1, -1), 2);
        });
        Cases.add(24, "the SMALLS behind that LEVEL don't matter", () -> {
            PackedForest f = Cases.of("S=ab;S=ac", "az");
            Cases.due("alive(1, -1)", f.alive(1, -1), 1);
        });
    }

    // ---- 25

    private static void links() {
        Cases.add(25, "to a STATE at a lower LEVEL, by a SMALL and by a CAPITAL", () -> {
            PackedForest f = Cases.of("S=Ab;A=a", "ab");
            Cases.due("links(1, behind a)", f.links(1, f.goes(0, 0)), 1);
            Cases.due("links(1, behind A)", f.links(1, f.goes(0, A)), 1);
            Cases.due("links(2, behind b)", f.links(2, f.goes(f.goes(0, A), 1)), 1);
            Cases.due("links(1, -1)", f.links(1, -1), 2);
        });
        Cases.add(25, "to a STATE at the same LEVEL, m being n at most", () -> {
            PackedForest f = Cases.of("S=ABb;A=;B=", "b");
            Cases.due("links(0, -1)", f.links(0, -1), 2);
            Cases.due("links(0, behind A)", f.links(0, f.goes(0, A)), 1);
        });
        Cases.add(25, "to itself", () -> {
            PackedForest f = Cases.of("S=AS;S=a;A=", "a");
            int behindA = f.goes(0, A);
            Cases.due("goes(behind A, A)", f.goes(behindA, A), behindA);
            Cases.due("links(0, behind A)", f.links(0, behindA), 2);
            Cases.due("links(1, behind A)", f.links(1, behindA), 0);
        });
        Cases.add(25, "to one STATE at several LEVELS, and to several STATES", () -> {
            PackedForest f = Cases.of("S=SS;S=a", "aaa");
            int behindSS = f.goes(f.goes(0, S), S);
            Cases.due("links(3, behind S)", f.links(3, f.goes(0, S)), 1);
            Cases.due("links(3, behind S S)", f.links(3, behindSS), 3);
            Cases.due("links(3, behind a)", f.links(3, f.goes(0, 0)), 2);
            Cases.due("links(3, -1)", f.links(3, -1), 6);
        });
        Cases.add(25, "not to a STATE that is not ALIVE", () -> {
            PackedForest f = Cases.of("S=xAb;A=a", "ab");
            Cases.due("links(1, -1)", f.links(1, -1), 0);
            Cases.due("links(2, -1)", f.links(2, -1), 0);
        });
        Cases.add(25, "one by a CAPITAL, however many TREES it has", () -> {
            PackedForest f = Cases.of("S=A;A=a;A=a;A=a", "a");
            Cases.due("links(1, behind A)", f.links(1, f.goes(0, A)), 1);
        });
        Cases.add(25, "STATE 0 at LEVEL 0 has none", () -> {
            PackedForest f = Cases.of("S=aS", "aa");
            Cases.due("links(0, 0)", f.links(0, 0), 0);
            Cases.due("links(0, -1)", f.links(0, -1), 0);
        });
        Cases.add(25, "0, if it is not ALIVE", () -> {
            PackedForest f = Cases.of("S=ab", "a");
            Cases.due("links(1, 0)", f.links(1, 0), 0);
            Cases.due("links(1, 2)", f.links(1, 2), 0);
            Cases.due("links(0, 1)", f.links(0, 1), 0);
            Cases.due("links(1, 1)", f.links(1, 1), 1);
        });
        Cases.add(25, "NONE without that LEVEL", () -> {
            PackedForest f = Cases.of("S=a", "a");
            for (int level : Cases.outside(1)) {
                Cases.due("links(" + level + ", -1)", f.links(level, -1), -1);
                Cases.due("links(" + level + ", 0)", f.links(level, 0), -1);
            }
        });
        Cases.add(25, "NONE without that STATE", () -> {
            PackedForest f = Cases.of("S=a", "a");
            for (int state : new int[] {-2, 2, 3, 89, 90, Cases.MIN, Cases.MAX}) {
                Cases.due("links(1, " + state + ")", f.links(1, state), -1);
            }
        });
        Cases.add(25, "NONE without a GRAMMAR", () -> {
            Cases.due("links(0, 0)", new PackedForest().links(0, 0), -1);
            Cases.due("links(0, -1)", new PackedForest().links(0, -1), -1);
        });
        Cases.add(25, "TREES that are not ALLOWED count", () -> {
            PackedForest f = Cases.of("S=A:2;A=a:1", "a");
            Cases.due("links(1, -1)", f.links(1, -1), 2);
        });
    }

    // ---- 26

    private static void expects() {
        Cases.add(26, "by which any STATE GOES that is ALIVE there, a and z", () -> {
            PackedForest f = Cases.of("S=Sz;S=a", "a");
            Cases.due("expects(0)", f.expects(0), Cases.set("a"));
            Cases.due("expects(1)", f.expects(1), Cases.set("z"));
        });
        Cases.add(26, "of more than one STATE", () -> {
            PackedForest f = Cases.of("S=Ab;S=aac;A=a", "aa");
            Cases.due("expects(1)", f.expects(1), Cases.set("ab"));
            Cases.due("expects(2)", f.expects(2), Cases.set("c"));
        });
        Cases.add(26, "one SMALL of two STATES", () ->
            Cases.due("expects(1)", Cases.of("S=Ab;S=ab;A=a", "a").expects(1), Cases.set("b")));
        Cases.add(26, "behind an EMPTY CAPITAL", () ->
            Cases.due("expects(0)", Cases.of("S=Ab;A=;A=a").expects(0), Cases.set("ab")));
        Cases.add(26, "none, at an end", () -> Cases.due("expects(1)", Cases.of("S=a", "a").expects(1), 0));
        Cases.add(26, "none, if no STATE is ALIVE", () -> {
            PackedForest f = Cases.of("S=a", "bb");
            Cases.due("expects(1)", f.expects(1), 0);
            Cases.due("expects(2)", f.expects(2), 0);
        });
        Cases.add(26, "whether the SMALL comes there or not", () -> {
            PackedForest f = Cases.of("S=aS;S=b", "ac");
            Cases.due("expects(1)", f.expects(1), Cases.set("ab"));
        });
        Cases.add(26, "NONE without that LEVEL", () -> {
            PackedForest f = Cases.of("S=aS", "aa");
            for (int level : Cases.outside(2)) {
                Cases.due("expects(" + level + ")", f.expects(level), -1);
            }
            Cases.due("expects(2)", f.expects(2), 1);
        });
        Cases.add(26, "LEVEL 12, and not 13", () -> {
            PackedForest f = Cases.of("S=aS", "aaaaaaaaaaaa");
            Cases.due("expects(12)", f.expects(12), 1);
            Cases.due("expects(13)", f.expects(13), -1);
        });
        Cases.add(26, "NONE without a GRAMMAR", () -> Cases.due("expects(0)", new PackedForest().expects(0), -1));
    }
}
