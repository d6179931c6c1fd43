import java.util.function.Supplier;

/** What was asked before an act never shows in what is answered behind it: promises 16 to 22, 4 and 40. */
final class AskedBeforeCases {
    private static final int MOST_PIECES = 9;

    /** Grammars, each with a text of three at most, and a ban that matters there. */
    private static final String[] GRAMMARS = {"S=SS:2<;S=a:1;S=b;A=ab:3;S=A", "S=aSb;S=c;S=;A=S", "S=AS;S=a;A=;A=aA;A=b", "S=SAS;A=b;S=a:1!;S=aS:1"};
    private static final String[] TEXTS = {"abb", "acb", "aab", "aba"};
    private static final int[][] BANS = {{0, 0, 4}, {0, 1, 1}, {0, 0, 2}, {0, 2, 2}};

    private AskedBeforeCases() { }

    /** An act on an object. */
    interface Act {
        void on(PackedForest f);
    }

    /** A call that changes nothing. */
    interface Question {
        int of(PackedForest f);
    }

    /** Each by itself, so that none is answered with the help of what another one worked out. */
    private static final Question[] QUESTIONS = {
        f -> f.facts(0), f -> f.facts(1), f -> f.facts(2), f -> f.facts(3), f -> f.facts(4), f -> f.firsts(44), f -> f.follows(44),
        f -> f.shortest(44), f -> f.states(), f -> f.goes(0, 0), f -> f.goes(1, 1), f -> f.points(1, 0), f -> f.done(1), f -> f.done(2),
        f -> f.clashes(), f -> f.letter(2), f -> f.alive(1, -1), f -> f.alive(f.count(2), -1), f -> f.alive(1, 2),
        f -> f.links(1, -1), f -> f.links(f.count(2), -1), f -> f.links(1, 2), f -> f.expects(1), f -> f.expects(f.count(2)),
        f -> f.derives(44, 0, f.count(2)), f -> f.derives(44, 1, 2), f -> f.trees(44, 0, f.count(2)), f -> f.trees(44, 1, 2),
        f -> f.piece(0, 0, f.count(2)), f -> f.piece(1, 1, 2), f -> f.ways(0, 0, f.count(2)), f -> f.ways(1, 1, 2),
        f -> f.forest(0), f -> f.forest(1), f -> f.forest(2), f -> f.forest(3), f -> f.smallest(), f -> f.tree(0, 0),
        f -> f.tree(1, 2), f -> f.whole(), f -> f.mend(), f -> f.spoken(1, -1),
    };

    static void add() {
        for (int g = 0; g < GRAMMARS.length; g++) {
            String grammar = GRAMMARS[g];
            String text = TEXTS[g];
            int[] ban = BANS[g];
            for (int small = 0; small < 3; small++) {
                int one = small;
                act(16, "READ " + small, grammar, text.substring(0, 2), f -> f.read(one));
                for (int place = 0; place < 3; place++) {
                    int at = place;
                    if (text.charAt(place) - 'a' != small) {
                        act(18, "CHANGE at " + place + " to " + small, grammar, text, f -> f.change(at, one));
                    }
                }
            }
            act(17, "DROP", grammar, text, PackedForest::drop);
            for (int rule = 0; rule < grammar.split(";").length; rule++) {
                int one = rule;
                act(19, "STRIKE " + rule, grammar, text, f -> f.strike(one));
            }
            act(20, "BAN", grammar, text, f -> f.ban(ban[0], ban[1], ban[2]));
            for (int filter = 0; filter < 3; filter++) {
                int one = filter;
                act(21, "SWITCH " + filter, grammar, text, f -> f.filter(one));
            }
            otherGrammars(g);
        }
        Cases.add(21, "a BAN, then SWITCH 2", () -> {
            PackedForest f = Cases.of(GRAMMARS[2], TEXTS[2]);
            f.ban(0, 0, 2);
            everything(f);
            f.filter(2);
            PackedForest fresh = Cases.of(GRAMMARS[2], TEXTS[2]);
            fresh.filter(2);
            fresh.ban(0, 0, 2);
            same(f, fresh);
        });
    }

    private static void act(int promise, String sentence, String grammar, String text, Act act) {
        Cases.add(promise, "asked before " + sentence + ": " + grammar, () -> {
            PackedForest f = Cases.of(grammar, text);
            everything(f);
            act.on(f);
            PackedForest fresh = Cases.of(grammar, text);
            act.on(fresh);
            same(f, fresh);
        });
        Cases.add(22, "asked before " + sentence + " is UNDONE: " + grammar, () -> {
            PackedForest f = Cases.of(grammar, text);
            act.on(f);
            everything(f);
            f.undo();
            same(f, Cases.of(grammar, text));
        });
        first(promise, "each asked first behind " + sentence + ": " + grammar, () -> {
            PackedForest f = Cases.of(grammar, text);
            everything(f);
            act.on(f);
            return f;
        }, () -> {
            PackedForest f = Cases.of(grammar, text);
            act.on(f);
            return f;
        });
        first(22, "each asked first behind " + sentence + ", UNDONE: " + grammar, () -> {
            PackedForest f = Cases.of(grammar, text);
            act.on(f);
            everything(f);
            f.undo();
            return f;
        }, () -> Cases.of(grammar, text));
        first(40, "each asked first, gone back behind " + sentence + ": " + grammar, () -> {
            PackedForest f = Cases.of(grammar, text);
            f.image(0);
            act.on(f);
            everything(f);
            f.back(0);
            return f;
        }, () -> Cases.of(grammar, text));
        Cases.add(40, "asked before it is gone back behind " + sentence + ": " + grammar, () -> {
            PackedForest f = Cases.of(grammar, text);
            f.image(1);
            act.on(f);
            everything(f);
            f.back(1);
            same(f, Cases.of(grammar, text));
        });
    }

    /** Each question as the first one behind the act. */
    private static void first(int promise, String sentence, Supplier<PackedForest> asked, Supplier<PackedForest> fresh) {
        Cases.add(promise, sentence, () -> {
            for (int k = 0; k < QUESTIONS.length; k++) {
                Cases.due("question " + k, QUESTIONS[k].of(asked.get()), QUESTIONS[k].of(fresh.get()));
            }
        });
    }

    private static void otherGrammars(int g) {
        for (int other = 0; other < GRAMMARS.length; other++) {
            String grammar = GRAMMARS[other];
            Cases.add(4, "asked before another GRAMMAR: " + GRAMMARS[g] + ", " + grammar, () -> {
                PackedForest f = Cases.of(GRAMMARS[g], TEXTS[g]);
                everything(f);
                Cases.tell(f, grammar);
                same(f, Cases.of(grammar));
            });
        }
    }

    private static void same(PackedForest f, PackedForest fresh) {
        String got = everything(f);
        String want = everything(fresh);
        Cases.due(got + "(due is " + want + ")", got.equals(want) ? 1 : 0, 1);
    }

    /** Some two hundred answers at most, so that two times these are no more than 512 calls. */
    private static String everything(PackedForest f) {
        StringBuilder all = new StringBuilder();
        int length = f.count(2);
        int[] once = {
            f.facts(0), f.facts(1), f.facts(2), f.facts(3), f.facts(4), f.firsts(44), f.follows(44), f.follows(26), f.shortest(44),
            f.states(), f.clashes(), f.smallest(), f.whole(), f.mend(), f.forest(0), f.forest(1), f.forest(2), f.forest(3),
            f.done(1), f.points(1, 0), f.goes(0, 0), f.goes(1, 1), f.count(3), f.count(4), f.count(5), f.count(6),
        };
        tell(all, once);
        for (int level = 0; level <= length; level++) {
            tell(all, f.alive(level, -1), f.alive(level, 1), f.links(level, -1), f.expects(level), f.letter(level));
        }
        for (int m = 0; m <= length; m++) {
            for (int n = m; n <= length; n++) {
                tell(all, f.derives(44, m, n), f.trees(44, m, n), f.trees(26, m, n));
                for (int rule = 0; rule < 3; rule++) {
                    tell(all, f.piece(rule, m, n), f.ways(rule, m, n));
                }
            }
        }
        for (int k = 0; k < MOST_PIECES; k++) {
            tell(all, f.tree(k, 0), f.tree(k, 1), f.tree(k, 2));
        }
        return all.toString();
    }

    private static void tell(StringBuilder all, int... answers) {
        for (int answer : answers) {
            all.append(answer).append(' ');
        }
    }
}
