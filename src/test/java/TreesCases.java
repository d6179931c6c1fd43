/** Boundary cases of promises 27 to 35: what is derived, trees, filters, forest, smallest tree, mending. */
final class TreesCases {
    private static final int A = 26;
    private static final int B = 27;
    private static final int S = 44;
    private static final int Z = 51;
    private static final int RANKS = 0;
    private static final int SIDES = 1;
    private static final int BANS = 2;

    private TreesCases() { }

    static void add() {
        derives();
        spans();
        trees();
        manyTrees();
        endlessTrees();
        ranks();
        sides();
        bans();
        switched();
        piece();
        ways();
        waysOrNone();
        forest();
        ambiguous();
        smallest();
        choices();
        tree();
        whole();
        mend();
    }

    // ---- 27

    private static void derives() {
        Cases.add(27, "the empty row, at each place", () -> {
            PackedForest f = Cases.of("S=;A=a", "ab");
            for (int place = 0; place <= 2; place++) {
                Cases.due("derives(S, " + place + ", " + place + ")", f.derives(S, place, place), 1);
                Cases.due("derives(A, " + place + ", " + place + ")", f.derives(A, place, place), 0);
            }
        });
        Cases.add(27, "the empty row of an empty TEXT", () -> {
            Cases.due("derives(S, 0, 0)", Cases.of("S=").derives(S, 0, 0), 1);
            Cases.due("derives(S, 0, 0)", Cases.of("S=a").derives(S, 0, 0), 0);
        });
        Cases.add(27, "the SMALLS from m to n - 1 and no others", () -> {
            PackedForest f = Cases.of("S=bc", "abcd");
            for (int m = 0; m <= 4; m++) {
                for (int n = m; n <= 4; n++) {
                    Cases.due("derives(S, " + m + ", " + n + ")", f.derives(S, m, n), m == 1 && n == 3 ? 1 : 0);
                }
            }
        });
        Cases.add(27, "all twelve", () -> {
            PackedForest f = Cases.of("S=aS;S=", "aaaaaaaaaaaa");
            Cases.due("derives(S, 0, 12)", f.derives(S, 0, 12), 1);
            Cases.due("derives(S, 12, 12)", f.derives(S, 12, 12), 1);
            Cases.due("derives(S, 0, 13)", f.derives(S, 0, 13), -1);
            Cases.due("derives(S, 13, 13)", f.derives(S, 13, 13), -1);
        });
        Cases.add(27, "A and Z", () -> {
            PackedForest f = Cases.of("A=aZ;Z=z", "az");
            Cases.due("derives(A, 0, 2)", f.derives(A, 0, 2), 1);
            Cases.due("derives(Z, 1, 2)", f.derives(Z, 1, 2), 1);
        });
        Cases.add(27, "whether ALLOWED or not", () -> {
            PackedForest f = Cases.of("S=A:2;A=a:1", "a");
            Cases.due("derives(S, 0, 1)", f.derives(S, 0, 1), 1);
            Cases.due("trees(S, 0, 1)", f.trees(S, 0, 1), 0);
        });
        Cases.add(27, "those that are not REACHED, too", () ->
            Cases.due("derives(B, 0, 1)", Cases.of("S=s;B=b", "b").derives(B, 0, 1), 1));
        Cases.add(27, "an empty RIGHT side derives no SMALL", () ->
            Cases.due("derives(S, 0, 1)", Cases.of("S=", "a").derives(S, 0, 1), 0));
        Cases.add(27, "by a TREE through a ring", () ->
            Cases.due("derives(S, 0, 1)", Cases.of("S=A;A=B;B=S;B=b", "b").derives(S, 0, 1), 1));
        Cases.add(27, "a ring alone is no TREE", () ->
            Cases.due("derives(S, 0, 1)", Cases.of("S=A;A=S", "b").derives(S, 0, 1), 0));
        Cases.add(27, "not by RULES that are STRUCK", () -> {
            PackedForest f = Cases.of("S=a;A=a", "a");
            f.strike(0);
            Cases.due("derives(S, 0, 1)", f.derives(S, 0, 1), 0);
            Cases.due("derives(A, 0, 1)", f.derives(A, 0, 1), 1);
        });
    }

    /** What promises 27 to 30 ask from m to n. */
    private static int asked(PackedForest f, int promise, int which, int m, int n) {
        switch (promise) {
            case 27:
                return f.derives(which, m, n);
            case 28:
                return f.trees(which, m, n);
            case 29:
                return f.piece(which, m, n);
            default:
                return f.ways(which, m, n);
        }
    }

    private static void spans() {
        for (int promise = 27; promise <= 30; promise++) {
            int p = promise;
            int one = p < 29 ? S : 0;
            Cases.add(p, "NONE without places 0 to as many SMALLS as there are, m behind n", () -> {
                PackedForest f = Cases.of("S=aS;S=", "aaa");
                for (int no : Cases.outside(3)) {
                    Cases.due("(" + no + ", 3)", asked(f, p, one, no, 3), -1);
                    Cases.due("(0, " + no + ")", asked(f, p, one, 0, no), -1);
                    Cases.due("(" + no + ", " + no + ")", asked(f, p, one, no, no), -1);
                }
                Cases.due("(3, 2)", asked(f, p, one, 3, 2), -1);
                Cases.due("(1, 0)", asked(f, p, one, 1, 0), -1);
                Cases.due("(3, 0)", asked(f, p, one, 3, 0), -1);
                Cases.due("(0, 3)", asked(f, p, one, 0, 3), 1);
            });
            Cases.add(p, "NONE behind a TEXT that was longer", () -> {
                PackedForest f = Cases.of("S=aS;S=", "aaa");
                Cases.due("(0, 3)", asked(f, p, one, 0, 3), 1);
                f.drop();
                Cases.due("(0, 3)", asked(f, p, one, 0, 3), -1);
                Cases.due("(0, 2)", asked(f, p, one, 0, 2), 1);
            });
            Cases.add(p, "NONE without a GRAMMAR", () ->
                Cases.due("(0, 0)", asked(new PackedForest(), p, one, 0, 0), -1));
        }
        for (int promise = 27; promise <= 28; promise++) {
            int p = promise;
            Cases.add(p, "NONE without a CAPITAL on a LEFT side", () -> {
                PackedForest f = Cases.of("B=;Y=");
                for (int no : new int[] {-1, 0, 1, 24, 25, 26, 28, 49, 51, 52, 53, 59, Cases.MIN, Cases.MAX}) {
                    Cases.due("of " + no, asked(f, p, no, 0, 0), -1);
                }
                Cases.due("of B", asked(f, p, B, 0, 0), 1);
            });
            Cases.add(p, "0, not NONE, of one all of whose RULES are STRUCK", () -> {
                PackedForest f = Cases.of("S=");
                f.strike(0);
                Cases.due("of S", asked(f, p, S, 0, 0), 0);
            });
        }
        for (int promise = 29; promise <= 30; promise++) {
            int p = promise;
            Cases.add(p, "NONE without that RULE", () -> {
                PackedForest f = Cases.of("S=;S=");
                for (int no : Cases.outside(1)) {
                    Cases.due("of " + no, asked(f, p, no, 0, 0), -1);
                }
                Cases.due("of 1", asked(f, p, 1, 0, 0), 1);
            });
            Cases.add(p, "of RULE 11, and not 12", () -> {
                PackedForest f = Cases.of("S=a;".repeat(11) + "S=b", "b");
                Cases.due("of 11", asked(f, p, 11, 0, 1), 1);
                Cases.due("of 12", asked(f, p, 12, 0, 1), -1);
                Cases.due("of 10", asked(f, p, 10, 0, 1), 0);
            });
            Cases.add(p, "0, not NONE, of a RULE that is STRUCK", () -> {
                PackedForest f = Cases.of("S=;S=");
                f.strike(0);
                Cases.due("of 0", asked(f, p, 0, 0, 0), 0);
                Cases.due("of 1", asked(f, p, 1, 0, 0), 1);
            });
        }
    }

    // ---- 28

    private static void treesDue(String sentence, String grammar, String text, int want) {
        Cases.add(28, sentence + ": " + grammar + " for '" + text + "'", () -> {
            PackedForest f = Cases.of(grammar, text);
            Cases.due("trees(START, 0, " + text.length() + ")", f.trees(f.count(1), 0, text.length()), want);
        });
    }

    private static void trees() {
        treesDue("none", "S=a", "b", 0);
        treesDue("one", "S=a", "a", 1);
        treesDue("of the empty row", "S=", "", 1);
        treesDue("of the empty row, none", "S=a", "", 0);
        treesDue("by unlike RULES", "S=a;S=a;S=A;A=a", "a", 3);
        treesDue("by unlike places", "S=SS;S=a", "aaaa", 5);
        treesDue("each CAPITAL has a TREE of its own", "S=AA;A=a;A=a;A=a", "aa", 9);
        treesDue("EMPTY ones at any PLACE", "S=AAAA;A=;A=a", "a", 4);
        treesDue("four of twelve", "S=AAAA;A=aA;A=", "aaaaaaaaaaaa", 455);
        Cases.add(28, "of a part", () -> {
            PackedForest f = Cases.of("S=SS;S=a", "aaaaa");
            Cases.due("trees(S, 1, 4)", f.trees(S, 1, 4), 2);
            Cases.due("trees(S, 2, 2)", f.trees(S, 2, 2), 0);
            Cases.due("trees(S, 4, 5)", f.trees(S, 4, 5), 1);
        });
        Cases.add(28, "RULES that are STRUCK are out of it", () -> {
            PackedForest f = Cases.of("S=a;S=a;S=A;A=a;A=a", "a");
            int[] left = {3, 2, 1, 0};
            int[] struck = {0, 1, 3, 4};
            for (int k = 0; k < 4; k++) {
                f.strike(struck[k]);
                Cases.due("trees(S, 0, 1), STRUCK " + struck[k], f.trees(S, 0, 1), left[k]);
            }
        });
        Cases.add(28, "12 RULES with 4 SYMBOLS each", () -> {
            PackedForest f = Cases.of("S=SSSS:1;".repeat(11) + "S=aaaa:1", "aaaaaaaaaaaa");
            Cases.due("trees(S, 0, 12)", f.trees(S, 0, 12), 0);
            Cases.due("trees(S, 4, 8)", f.trees(S, 4, 8), 1);
            Cases.due("smallest()", f.smallest(), -2);
            Cases.due("mend()", f.mend(), 4);
            Cases.due("whole()", f.whole(), 4);
            Cases.due("forest(0)", f.forest(0), 0);
        });
        Cases.add(28, "of a CAPITAL that is not REACHED", () ->
            Cases.due("trees(B, 0, 1)", Cases.of("S=;B=b;B=b", "b").trees(B, 0, 1), 2));
    }

    /** P has 8 ** n trees for n times a, Q has 7 (but for no a), R has 8 for none. */
    private static final String NEARLY = "S=PQ;S=P;P=PRa;P=;R=EEE;E=;E=;Q=aQ;Q=aEE;Q=aE;Q=a";
    private static final String TEN = "aaaaaaaaaa";

    private static void manyTrees() {
        treesDue("2147483647 are not more than 2147483647", NEARLY, TEN, 2147483647);
        treesDue("2147483648 are: -2", "S=PE;P=PRa;P=;R=EEE;E=;E=", TEN, -2);
        treesDue("half of it", "S=P;P=PRa;P=;R=EEE;E=;E=", TEN, 1073741824);
        treesDue("half of it twice", "S=P;S=P;P=PRa;P=;R=EEE;E=;E=", TEN, -2);
        treesDue("2147483654 are", NEARLY + ";S=Q", TEN, -2);
        treesDue("half of it five times", "S=P;S=P;S=P;S=P;S=P;P=PRa;P=;R=EEE;E=;E=", TEN, -2);
        treesDue("7 ** 11", "S=AAAS;S=AA;A=a;A=a;A=a;A=a;A=a;A=a;A=a", "aaaaaaaaaaa", 1977326743);
        treesDue("7 ** 12", "S=AAAS;S=;A=a;A=a;A=a;A=a;A=a;A=a;A=a", "aaaaaaaaaaaa", -2);
        treesDue("2 ** 32", "S=PEE;P=PRa;P=;R=EEE;E=;E=", TEN, -2);
        treesDue("2 ** 63", "S=PEEE;P=PRRa;P=;R=EEE;E=;E=", TEN, -2);
        treesDue("2 ** 64", "S=P;P=PRRa;P=;R=EEEE;E=;E=", "aaaaaaaa", -2);
        treesDue("2 ** 96", "S=P;P=PRRa;P=;R=EEEE;E=;E=", "aaaaaaaaaaaa", -2);
        treesDue("more, but none of the other part", "S=PB;P=PRRa;P=;R=EEEE;E=;E=;B=b", "aaaaaaaaaaaa", 0);
        treesDue("more, and one of the other part", "S=PB;P=PRRa;P=;R=EEEE;E=;E=;B=b", "aaaaaaaaaaab", -2);
    }

    private static void endlessTrees() {
        treesDue("as many as one likes", "S=S;S=a", "a", -3);
        treesDue("as many as one likes, of the empty row", "S=SS;S=", "", -3);
        treesDue("a ring that derives nothing", "S=S", "a", 0);
        treesDue("a ring for another row", "S=S;S=a", "b", 0);
        treesDue("a ring for a part of it", "S=aA;A=A;A=b", "ab", -3);
        treesDue("a ring beside it", "S=a;A=A;A=a", "a", 1);
        treesDue("a ring with EMPTY ones beside it", "S=ASB;A=;B=;S=a", "a", -3);
        treesDue("no ring with what is not EMPTY beside it", "S=AS;A=a;S=b", "ab", 1);
        treesDue("a ring of five", "S=A;A=B;B=C;C=D;D=S;D=d", "d", -3);
        treesDue("a ring above a part that has no TREE", "S=AB;A=A;A=a;B=b", "aa", 0);
        treesDue("both: more than 2147483647 and as many as one likes", "S=P;S=S;P=PRRa;P=;R=EEEE;E=;E=", TEN, -3);
        treesDue("both, one beside the other", "S=PA;A=A;A=;P=PRRa;P=;R=EEEE;E=;E=", TEN, -3);
        treesDue("a ring that RANKS break", "S=A:2;A=S:1;A=a", "a", 1);
        treesDue("a ring that SIDES break", "S=S:1!;S=a", "a", 2);
        treesDue("a ring that SIDES don't break", "S=S:1<;S=a", "a", -3);
        Cases.add(28, "a ring that a BAN breaks", () -> {
            PackedForest f = Cases.of("S=S;S=a", "a");
            f.ban(0, 0, 0);
            Cases.due("trees(S, 0, 1)", f.trees(S, 0, 1), 2);
            f.filter(BANS);
            Cases.due("trees(S, 0, 1), off", f.trees(S, 0, 1), -3);
        });
        Cases.add(28, "a ring that a STRUCK RULE breaks", () -> {
            PackedForest f = Cases.of("S=A;A=S;A=a", "a");
            Cases.due("trees(S, 0, 1)", f.trees(S, 0, 1), -3);
            f.strike(1);
            Cases.due("trees(S, 0, 1)", f.trees(S, 0, 1), 1);
        });
        Cases.add(28, "of a part as many as one likes, of another one not", () -> {
            PackedForest f = Cases.of("S=SS;S=a;S=A;A=A;A=b", "ab");
            Cases.due("trees(S, 0, 1)", f.trees(S, 0, 1), 1);
            Cases.due("trees(S, 1, 2)", f.trees(S, 1, 2), -3);
            Cases.due("trees(S, 0, 2)", f.trees(S, 0, 2), -3);
        });
    }

    // ---- 28: the filters

    private static void ranks() {
        treesDue("RANKS: that of q less than that of r", "S=A:2;A=a:1", "a", 0);
        treesDue("RANKS: 8 below 9", "S=A:9;A=a:8", "a", 0);
        treesDue("RANKS: one RANK is not less", "S=A:2;A=a:2", "a", 1);
        treesDue("RANKS: a greater one is not less", "S=A:1;A=a:2", "a", 1);
        treesDue("RANKS: r has none", "S=A;A=a:1", "a", 1);
        treesDue("RANKS: q has none", "S=A:9;A=a", "a", 1);
        treesDue("RANKS: at every PLACE", "S=AbA:2;A=x:1;A=x:2;A=x:3;A=x", "xbx", 9);
        treesDue("RANKS: right below alone", "S=A:2;A=B;B=b:1", "b", 1);
        treesDue("RANKS: nothing is above the first PIECE", "S=S:9;S=a:1", "a", 1);
        Cases.add(28, "RANKS: off", () -> {
            PackedForest f = Cases.of("S=AbA:2;A=x:1;A=x:2;A=x:3;A=x", "xbx");
            f.filter(RANKS);
            Cases.due("trees(S, 0, 3)", f.trees(S, 0, 3), 16);
            f.filter(RANKS);
            Cases.due("trees(S, 0, 3)", f.trees(S, 0, 3), 9);
        });
    }

    private static void sides() {
        treesDue("SIDES: <, k 0", "S=AbA:1<;A=x:1;A=y", "xby", 1);
        treesDue("SIDES: <, k not 0", "S=AbA:1<;A=x:1;A=y", "ybx", 0);
        treesDue("SIDES: <, k in the middle", "S=AAA:1<;A=x:1;A=y", "yxy", 0);
        treesDue("SIDES: <, k 0 alone, though a SMALL stands there", "S=bA:1<;A=x:1", "bx", 0);
        treesDue("SIDES: >, k its last PLACE", "S=AbA:1>;A=x:1;A=y", "ybx", 1);
        treesDue("SIDES: >, k not its last PLACE", "S=AbA:1>;A=x:1;A=y", "xby", 0);
        treesDue("SIDES: >, k in the middle", "S=AAA:1>;A=x:1;A=y", "yxy", 0);
        treesDue("SIDES: >, the last PLACE of four", "S=AAAA:1>;A=x:1;A=y", "yyyx", 1);
        treesDue("SIDES: >, the last but one of four", "S=AAAA:1>;A=x:1;A=y", "yyxy", 0);
        treesDue("SIDES: >, the last PLACE alone, though a SMALL stands there", "S=Ab:1>;A=x:1", "xb", 0);
        treesDue("SIDES: !, k 0", "S=AbA:1!;A=x:1;A=y", "xby", 0);
        treesDue("SIDES: !, the last PLACE", "S=AbA:1!;A=x:1;A=y", "ybx", 0);
        treesDue("SIDES: !, none of them", "S=AbA:1!;A=x:1;A=y", "yby", 1);
        treesDue("SIDES: <, one PLACE is the first", "S=A:1<;A=x:1", "x", 1);
        treesDue("SIDES: >, one PLACE is the last", "S=A:1>;A=x:1", "x", 1);
        treesDue("SIDES: !, one PLACE", "S=A:1!;A=x:1", "x", 0);
        treesDue("SIDES: without a SIDE", "S=AA:1;A=x:1", "xx", 1);
        treesDue("SIDES: unlike RANKS", "S=AA:1!;A=x:2", "xx", 1);
        treesDue("SIDES: q has no RANK", "S=AA:1!;A=x", "xx", 1);
        treesDue("SIDES: that of q does not matter", "S=AA:1;A=x:1!", "xx", 1);
        treesDue("SIDES: of RANK 9", "S=AA:9!;A=x:9", "xx", 0);
        treesDue("SIDES: below another RULE of one RANK", "S=aB:2<;B=b:2>", "ab", 0);
        treesDue("SIDES: right below alone", "S=A:1!;A=B;B=b:1", "b", 1);
        Cases.add(28, "SIDES: off", () -> {
            PackedForest f = Cases.of("S=AA:1!;A=x:1", "xx");
            f.filter(SIDES);
            Cases.due("trees(S, 0, 2)", f.trees(S, 0, 2), 1);
            f.filter(SIDES);
            Cases.due("trees(S, 0, 2)", f.trees(S, 0, 2), 0);
        });
    }

    private static void bans() {
        Cases.add(28, "BANS: of that PLACE alone", () -> {
            PackedForest f = Cases.of("S=AA;A=x;A=y", "xx");
            f.ban(0, 1, 2);
            Cases.due("xx", f.trees(S, 0, 2), 1);
            f.change(0, 24);
            Cases.due("yx", f.trees(S, 0, 2), 1);
            f.change(1, 24);
            Cases.due("yy", f.trees(S, 0, 2), 0);
            f.change(0, 23);
            Cases.due("xy", f.trees(S, 0, 2), 0);
        });
        Cases.add(28, "BANS: of that RULE above alone", () -> {
            PackedForest f = Cases.of("S=A;S=A;A=x", "x");
            f.ban(1, 0, 2);
            Cases.due("trees(S, 0, 1)", f.trees(S, 0, 1), 1);
            Cases.due("tree(0, 0)", f.tree(0, 0), 0);
        });
        Cases.add(28, "BANS: of that RULE below alone", () -> {
            PackedForest f = Cases.of("S=A;A=x;A=x;A=x", "x");
            f.ban(0, 0, 1);
            f.ban(0, 0, 3);
            Cases.due("trees(S, 0, 1)", f.trees(S, 0, 1), 1);
            Cases.due("tree(1, 0)", f.tree(1, 0), 2);
        });
        Cases.add(28, "BANS: right below alone", () -> {
            PackedForest f = Cases.of("S=A;A=A;A=x", "x");
            f.ban(0, 0, 2);
            f.ban(1, 0, 1);
            Cases.due("trees(S, 0, 1)", f.trees(S, 0, 1), 1);
            Cases.due("smallest()", f.smallest(), 3);
        });
        Cases.add(28, "BANS: nothing is above the first PIECE", () -> {
            PackedForest f = Cases.of("S=S;S=a", "a");
            f.ban(0, 0, 0);
            f.ban(0, 0, 1);
            Cases.due("trees(S, 0, 1)", f.trees(S, 0, 1), 1);
        });
        Cases.add(28, "BANS: off, though some are made", () -> {
            PackedForest f = Cases.of("S=A;A=x", "x");
            f.filter(BANS);
            f.ban(0, 0, 1);
            Cases.due("trees(S, 0, 1), off", f.trees(S, 0, 1), 1);
            f.filter(BANS);
            Cases.due("trees(S, 0, 1), on", f.trees(S, 0, 1), 0);
        });
    }

    private static void switched() {
        String grammar = "S=AA:2!;A=x:1;A=x:2;A=x:3;A=x:4";
        Cases.add(28, "each FILTER by itself, in whatever order", () -> {
            // Below one by S=AA there may be: all but one by RANKS, all but one by SIDES, all but one by BANS.
            for (int on = 0; on < 8; on++) {
                for (int order = 0; order < 2; order++) {
                    PackedForest f = Cases.of(grammar, "xx");
                    f.ban(0, 0, 4);
                    f.ban(0, 1, 4);
                    for (int k = 0; k < 3; k++) {
                        int filter = order == 0 ? k : 2 - k;
                        if ((on >> filter & 1) == 0) {
                            f.filter(filter);
                        }
                    }
                    int below = 4 - Integer.bitCount(on);
                    Cases.due("trees(S, 0, 2) with FILTERS " + on, f.trees(S, 0, 2), below * below);
                }
            }
        });
        Cases.add(28, "FILTERS that are on at first: all", () ->
            Cases.due("trees(S, 0, 2)", Cases.of(grammar, "xx").trees(S, 0, 2), 4));
    }

    // ---- 29 and 30

    private static void piece() {
        Cases.add(29, "of the START for the whole TEXT", () -> {
            PackedForest f = Cases.of("S=SS;S=a", "aa");
            Cases.due("piece(0, 0, 2)", f.piece(0, 0, 2), 1);
            Cases.due("piece(1, 0, 1)", f.piece(1, 0, 1), 1);
            Cases.due("piece(1, 1, 2)", f.piece(1, 1, 2), 1);
            Cases.due("piece(1, 0, 2)", f.piece(1, 0, 2), 0);
            Cases.due("piece(0, 0, 1)", f.piece(0, 0, 1), 0);
        });
        Cases.add(29, "0 of a RULE that has a TREE there, but not below the START", () -> {
            PackedForest f = Cases.of("S=aA;A=b;B=b", "ab");
            Cases.due("piece(1, 1, 2)", f.piece(1, 1, 2), 1);
            Cases.due("piece(2, 1, 2)", f.piece(2, 1, 2), 0);
        });
        Cases.add(29, "0 of one that derives a part alone, though it is the START", () -> {
            PackedForest f = Cases.of("S=a;S=ab", "ab");
            Cases.due("piece(0, 0, 1)", f.piece(0, 0, 1), 0);
            Cases.due("piece(1, 0, 2)", f.piece(1, 0, 2), 1);
        });
        Cases.add(29, "0 of all, if the whole TEXT has no TREE", () -> {
            PackedForest f = Cases.of("S=SS;S=a", "aab");
            Cases.due("piece(0, 0, 2)", f.piece(0, 0, 2), 0);
            Cases.due("piece(1, 0, 1)", f.piece(1, 0, 1), 0);
        });
        Cases.add(29, "0 of one that is in no ALLOWED TREE", () -> {
            PackedForest f = Cases.of("S=A:2;S=B;A=a:1;B=A", "a");
            Cases.due("piece(0, 0, 1)", f.piece(0, 0, 1), 0);
            Cases.due("piece(1, 0, 1)", f.piece(1, 0, 1), 1);
            Cases.due("piece(2, 0, 1)", f.piece(2, 0, 1), 1);
            f.filter(RANKS);
            Cases.due("piece(0, 0, 1), RANKS off", f.piece(0, 0, 1), 1);
        });
        Cases.add(29, "of an empty row, at the first and the last place", () -> {
            PackedForest f = Cases.of("S=AaB;A=;B=", "a");
            Cases.due("piece(1, 0, 0)", f.piece(1, 0, 0), 1);
            Cases.due("piece(1, 1, 1)", f.piece(1, 1, 1), 0);
            Cases.due("piece(2, 1, 1)", f.piece(2, 1, 1), 1);
            Cases.due("piece(2, 0, 0)", f.piece(2, 0, 0), 0);
        });
        Cases.add(29, "of an empty TEXT", () -> Cases.due("piece(0, 0, 0)", Cases.of("S=").piece(0, 0, 0), 1));
        Cases.add(29, "below one for all of its part", () -> {
            PackedForest f = Cases.of("A=B;B=C;C=D;D=d", "d");
            for (int rule = 0; rule < 4; rule++) {
                Cases.due("piece(" + rule + ", 0, 1)", f.piece(rule, 0, 1), 1);
            }
        });
        Cases.add(29, "below one for all of its part, told ahead of it", () -> {
            PackedForest f = Cases.of("S=z;B=b;A=B;S=A", "b");
            int[] wants = {0, 1, 1, 1};
            for (int rule = 0; rule < 4; rule++) {
                Cases.due("piece(" + rule + ", 0, 1)", f.piece(rule, 0, 1), wants[rule]);
            }
        });
        Cases.add(29, "below one for all of an empty row", () -> {
            PackedForest f = Cases.of("S=A;A=BB;B=");
            for (int rule = 0; rule < 3; rule++) {
                Cases.due("piece(" + rule + ", 0, 0)", f.piece(rule, 0, 0), 1);
            }
        });
        Cases.add(29, "in a ring", () -> {
            PackedForest f = Cases.of("S=A;A=B;B=A;B=b", "b");
            for (int rule = 0; rule < 4; rule++) {
                Cases.due("piece(" + rule + ", 0, 1)", f.piece(rule, 0, 1), 1);
            }
        });
        Cases.add(29, "by places that fit ahead, but not to the end", () -> {
            PackedForest f = Cases.of("S=AAb;A=a;A=aa;A=", "aab");
            Cases.due("piece(1, 0, 1)", f.piece(1, 0, 1), 1);
            Cases.due("piece(1, 1, 2)", f.piece(1, 1, 2), 1);
            Cases.due("piece(2, 0, 2)", f.piece(2, 0, 2), 1);
            Cases.due("piece(3, 0, 0)", f.piece(3, 0, 0), 1);
            Cases.due("piece(3, 1, 1)", f.piece(3, 1, 1), 0);
            Cases.due("piece(3, 2, 2)", f.piece(3, 2, 2), 1);
        });
        Cases.add(29, "by places that fit to the end of another RULE", () -> {
            PackedForest f = Cases.of("S=AB;A=a;A=CD;B=ab;B=b;C=a;C=aa;D=a", "aab");
            Cases.due("piece(2, 0, 2)", f.piece(2, 0, 2), 1);
            Cases.due("piece(5, 0, 1)", f.piece(5, 0, 1), 1);
            Cases.due("piece(6, 0, 2)", f.piece(6, 0, 2), 0);
        });
        Cases.add(29, "an EMPTY one ahead of what does not fit then", () -> {
            PackedForest f = Cases.of("S=CD;C=;C=a;D=a", "aa");
            Cases.due("piece(1, 0, 0)", f.piece(1, 0, 0), 0);
            Cases.due("piece(2, 0, 1)", f.piece(2, 0, 1), 1);
        });
    }

    private static void waysDue(String sentence, String grammar, String text, int want) {
        Cases.add(30, sentence + ": " + grammar + " for '" + text + "'", () ->
            Cases.due("ways(0, 0, " + text.length() + ")", Cases.of(grammar, text).ways(0, 0, text.length()), want));
    }

    private static void ways() {
        waysDue("an empty RIGHT side, m and n one", "S=", "", 1);
        waysDue("an empty RIGHT side, a SMALL to go", "S=", "a", 0);
        waysDue("SMALLS alone", "S=abcd", "abcd", 1);
        waysDue("another SMALL", "S=abcd", "abca", 0);
        waysDue("the last one at n: too few", "S=ab", "abc", 0);
        waysDue("the last one at n: too many", "S=abc", "ab", 0);
        waysDue("one row, however many TREES", "S=AA;A=a;A=a", "aa", 1);
        waysDue("two rows", "S=AB;A=;A=a;B=;B=a", "a", 2);
        waysDue("eleven of twelve", "S=SS;S=a", "aaaaaaaaaaaa", 11);
        waysDue("four of twelve", "S=AAAA;A=aA;A=", "aaaaaaaaaaaa", 455);
        waysDue("three of them end at one place", "S=AAAA;A=", "", 1);
        waysDue("as many TREES as one likes", "S=SS;S=;S=a", "a", 2);
        waysDue("a SMALL between", "S=AbA;A=bA;A=", "bbb", 3);
        waysDue("unlike rows that end alike", "S=ABC;A=;A=a;B=;B=aa;C=;C=a", "a", 2);
    }

    private static void waysOrNone() {
        Cases.add(30, "not FORBIDDEN there", () -> {
            PackedForest f = Cases.of("S=SS:1<;S=a", "aaa");
            Cases.due("ways(0, 0, 3)", f.ways(0, 0, 3), 1);
            f.filter(SIDES);
            Cases.due("ways(0, 0, 3), SIDES off", f.ways(0, 0, 3), 2);
        });
        Cases.add(30, "one RULE that is not FORBIDDEN is enough", () -> {
            PackedForest f = Cases.of("S=A;A=a;A=a", "a");
            f.ban(0, 0, 1);
            Cases.due("ways(0, 0, 1)", f.ways(0, 0, 1), 1);
            f.ban(0, 0, 2);
            Cases.due("ways(0, 0, 1), both BANS", f.ways(0, 0, 1), 0);
        });
        Cases.add(30, "that has an ALLOWED TREE for its part", () -> {
            PackedForest f = Cases.of("S=A;A=B:2;B=b:1", "b");
            Cases.due("ways(0, 0, 1)", f.ways(0, 0, 1), 0);
            Cases.due("ways(1, 0, 1)", f.ways(1, 0, 1), 0);
            Cases.due("ways(2, 0, 1)", f.ways(2, 0, 1), 1);
            f.filter(RANKS);
            Cases.due("ways(0, 0, 1), RANKS off", f.ways(0, 0, 1), 1);
        });
        Cases.add(30, "whether it is a PIECE of the FOREST or not", () -> {
            PackedForest f = Cases.of("S=a;B=BB;B=b", "bbb");
            Cases.due("ways(1, 0, 3)", f.ways(1, 0, 3), 2);
            Cases.due("piece(1, 0, 3)", f.piece(1, 0, 3), 0);
        });
        Cases.add(30, "what may be above it does not matter", () -> {
            PackedForest f = Cases.of("S=A:2;A=a:1", "a");
            Cases.due("ways(1, 0, 1)", f.ways(1, 0, 1), 1);
        });
        Cases.add(30, "from m to n, between others", () -> {
            PackedForest f = Cases.of("S=AA;A=aA;A=", "baab");
            Cases.due("ways(0, 1, 3)", f.ways(0, 1, 3), 3);
            Cases.due("ways(0, 0, 3)", f.ways(0, 0, 3), 0);
            Cases.due("ways(0, 1, 4)", f.ways(0, 1, 4), 0);
            Cases.due("ways(0, 4, 4)", f.ways(0, 4, 4), 1);
        });
        Cases.add(30, "RULES that are STRUCK are out of it", () -> {
            PackedForest f = Cases.of("S=A;A=a;A=a", "a");
            f.strike(1);
            Cases.due("ways(0, 0, 1)", f.ways(0, 0, 1), 1);
            f.strike(2);
            Cases.due("ways(0, 0, 1)", f.ways(0, 0, 1), 0);
        });
    }

    // ---- 31

    private static void forestDue(String sentence, String grammar, String text, int... wants) {
        Cases.add(31, sentence + ": " + grammar + " for '" + text + "'", () -> {
            PackedForest f = Cases.of(grammar, text);
            for (int what = 0; what < wants.length; what++) {
                Cases.due("forest(" + what + ")", f.forest(what), wants[what]);
            }
        });
    }

    private static void forest() {
        forestDue("no TREE", "S=a", "b", 0, 0, 0, -2);
        forestDue("one PIECE", "S=a", "a", 1, 1, 0, -2);
        forestDue("one PIECE of an empty TEXT", "S=", "", 1, 1, 0, -2);
        forestDue("an empty TEXT that has none", "S=a", "", 0, 0, 0, -2);
        forestDue("a PIECE that is shared is one", "S=AB;S=AC;A=a;B=b;C=b", "ab", 5, 4, 1, 2);
        forestDue("one NODE of two PIECES", "S=a;S=a", "a", 2, 1, 1, 1);
        forestDue("two NODES of one part", "S=A;A=a", "a", 2, 2, 0, -2);
        forestDue("one CAPITAL of unlike parts", "S=AA;A=a;A=aa", "aaa", 5, 5, 1, 3);
        forestDue("as many TREES as one likes, PIECES are counted", "S=S;S=a", "a", 2, 1, 1, 1);
        forestDue("all of twelve", "S=SS;S=a", "aaaaaaaaaaaa", 78, 78, 55, 3);
        forestDue("those that are in no ALLOWED TREE are out", "S=SS:1<;S=a", "aaaa", 7, 7, 0, -2);
        Cases.add(31, "NONE for others", () -> {
            PackedForest f = Cases.of("S=a", "a");
            for (int what : Cases.outside(3)) {
                Cases.due("forest(" + what + ")", f.forest(what), -1);
            }
        });
        Cases.add(31, "NONE without a GRAMMAR", () -> {
            for (int what = 0; what < 4; what++) {
                Cases.due("forest(" + what + ")", new PackedForest().forest(what), -1);
            }
        });
    }

    private static void ambiguous() {
        forestDue("two WAYS are more than one", "S=AA;A=a;A=aa", "aaa", 5, 5, 1, 3);
        forestDue("one WAY is not", "S=AA;A=a", "aa", 3, 3, 0, -2);
        forestDue("one WAY each of two PIECES is", "S=A;S=a;A=a", "a", 3, 2, 1, 1);
        forestDue("more TREES below are not", "S=A;A=a;A=a", "a", 3, 2, 1, 1);
        forestDue("NARROW 0", "S=aA;A=;A=", "a", 3, 2, 1, 0);
        forestDue("NARROW, the shortest of two", "S=AB;A=a;A=a;B=bb;B=bb", "abb", 5, 3, 2, 1);
        forestDue("NARROW, the shortest of two, told last", "S=BA;B=bb;B=bb;A=a;A=a", "bba", 5, 3, 2, 1);
        forestDue("NARROW 12", "S=AB;S=AB;A=aaaa;B=CC;C=aaaa", "aaaaaaaaaaaa", 6, 5, 1, 12);
        Cases.add(31, "what is in no ALLOWED TREE is not AMBIGUOUS", () -> {
            PackedForest f = Cases.of("S=A;A=a;A=a", "a");
            f.ban(0, 0, 2);
            Cases.due("forest(0)", f.forest(0), 2);
            Cases.due("forest(2)", f.forest(2), 0);
            Cases.due("forest(3)", f.forest(3), -2);
        });
        Cases.add(31, "what is not in the FOREST is not AMBIGUOUS", () -> {
            PackedForest f = Cases.of("S=a;B=a;B=a", "a");
            Cases.due("forest(1)", f.forest(1), 1);
            Cases.due("forest(2)", f.forest(2), 0);
        });
        Cases.add(31, "RULES that are STRUCK are out of it", () -> {
            PackedForest f = Cases.of("S=a;S=a", "a");
            f.strike(0);
            Cases.due("forest(0)", f.forest(0), 1);
            Cases.due("forest(2)", f.forest(2), 0);
            f.strike(1);
            Cases.due("forest(0)", f.forest(0), 0);
            Cases.due("forest(3)", f.forest(3), -2);
        });
    }

    // ---- 32 and 33

    private static void smallestDue(String sentence, String grammar, String text, int want) {
        Cases.add(32, sentence + ": " + grammar + " for '" + text + "'", () ->
            Cases.due("smallest()", Cases.of(grammar, text).smallest(), want));
    }

    private static void smallest() {
        smallestDue("one PIECE", "S=a", "a", 1);
        smallestDue("one PIECE of an empty TEXT", "S=", "", 1);
        smallestDue("-2: there is none", "S=a", "b", -2);
        smallestDue("-2: there is none of an empty TEXT", "S=a", "", -2);
        smallestDue("-2: there is none for the whole TEXT", "S=a", "ab", -2);
        smallestDue("-2: a ring is none", "S=S", "a", -2);
        smallestDue("-2: none is ALLOWED", "S=A:2;A=a:1", "a", -2);
        smallestDue("-2: of another CAPITAL there is one", "S=b;A=a", "a", -2);
        smallestDue("a ring is not gone round", "S=S;S=A;A=S;A=a", "a", 2);
        smallestDue("of fewest PIECES", "S=SS;S=aa;S=a", "aaaaa", 5);
        smallestDue("of two the first told", "S=bA;A=a;A=B;B=a", "ba", 2);
        smallestDue("of two the last told", "S=bA;A=B;B=a;A=a", "ba", 2);
        smallestDue("of twelve", "S=SS;S=a", "aaaaaaaaaaaa", 23);
        smallestDue("of many empty rows", "S=AAAA;A=BBBB;B=CCCC;C=DDDD;D=", "", 341);
        smallestDue("ALLOWED ones alone", "S=A:2;S=B;A=a:1;B=C;C=a", "a", 3);
        Cases.add(32, "NONE without a GRAMMAR", () -> Cases.due("smallest()", new PackedForest().smallest(), -1));
        Cases.add(32, "a smaller one is FORBIDDEN", () -> {
            PackedForest f = Cases.of("S=A;A=a;A=B;B=a", "a");
            Cases.due("smallest()", f.smallest(), 2);
            f.ban(0, 0, 1);
            Cases.due("smallest(), a BAN", f.smallest(), 3);
            f.ban(0, 0, 2);
            Cases.due("smallest(), two BANS", f.smallest(), -2);
            f.filter(BANS);
            Cases.due("smallest(), BANS off", f.smallest(), 2);
        });
        Cases.add(32, "a smaller one is STRUCK", () -> {
            PackedForest f = Cases.of("S=a;S=A;A=a", "a");
            f.strike(0);
            Cases.due("smallest()", f.smallest(), 2);
        });
    }

    private static void treeDue(String sentence, String grammar, String text, int[]... pieces) {
        Cases.add(33, sentence + ": " + grammar + " for '" + text + "'", () -> Cases.tree(Cases.of(grammar, text), pieces));
    }

    private static void choices() {
        treeDue("fewest PIECES ahead of the least RULE", "S=A;S=a;A=a", "a", Cases.at(1, 0, 1));
        treeDue("of several the least RULE", "S=b;S=a;S=a", "a", Cases.at(1, 0, 1));
        treeDue("the least RULE ahead of the first places", "S=aA;S=A;A=aa;A=a;S=Aa", "aa",
            Cases.at(0, 0, 2), Cases.at(3, 1, 2));
        treeDue("the first places, least numbers first", "S=AA;A=a;A=aa", "aaa",
            Cases.at(0, 0, 3), Cases.at(1, 0, 1), Cases.at(2, 1, 3));
        treeDue("the second of the places, the first being one", "S=AAA;A=;A=a", "a",
            Cases.at(0, 0, 1), Cases.at(1, 0, 0), Cases.at(1, 0, 0), Cases.at(2, 0, 1));
        treeDue("the first places ahead of the RULES below", "S=AA;A=aa;A=a", "aaa",
            Cases.at(0, 0, 3), Cases.at(2, 0, 1), Cases.at(1, 1, 3));
        treeDue("fewest PIECES ahead of the first places", "S=AA;A=B;B=a;A=aa", "aaa",
            Cases.at(0, 0, 3), Cases.at(1, 0, 1), Cases.at(2, 0, 1), Cases.at(3, 1, 3));
        treeDue("fewest PIECES of all of it ahead of the first places", "S=AB;A=a;A=aa;B=C;C=aa;B=a", "aaa",
            Cases.at(0, 0, 3), Cases.at(2, 0, 2), Cases.at(5, 2, 3));
        treeDue("its CAPITALS by the same choice of their own", "S=AA;A=b;A=a;A=a", "aa",
            Cases.at(0, 0, 2), Cases.at(2, 0, 1), Cases.at(2, 1, 2));
        treeDue("below them, too", "S=A;A=BC;B=;B=c;C=;C=c", "c",
            Cases.at(0, 0, 1), Cases.at(1, 0, 1), Cases.at(2, 0, 0), Cases.at(5, 0, 1));
        Cases.add(33, "its CAPITALS among those that are not FORBIDDEN there", () -> {
            PackedForest f = Cases.of("S=AA;A=a;A=a", "aa");
            f.ban(0, 0, 1);
            Cases.tree(f, Cases.at(0, 0, 2), Cases.at(2, 0, 1), Cases.at(1, 1, 2));
        });
        Cases.add(33, "RULES that are STRUCK are out of it", () -> {
            PackedForest f = Cases.of("S=A;S=A;A=a;A=a", "a");
            f.strike(0);
            f.strike(2);
            Cases.tree(f, Cases.at(1, 0, 1), Cases.at(3, 0, 1));
        });
    }

    private static void tree() {
        treeDue("a PIECE, then those below it, PLACE by PLACE", "S=AbB;A=xC;C=c;B=CC", "xcbcc",
            Cases.at(0, 0, 5), Cases.at(1, 0, 2), Cases.at(2, 1, 2), Cases.at(3, 3, 5), Cases.at(2, 3, 4), Cases.at(2, 4, 5));
        treeDue("empty rows, at their places", "S=AabA;A=", "ab",
            Cases.at(0, 0, 2), Cases.at(1, 0, 0), Cases.at(1, 2, 2));
        Cases.add(33, "the first and the last PIECE", () -> {
            PackedForest f = Cases.of("S=SS;S=a", "aaaaaaaaaaaa");
            Cases.due("tree(0, 0)", f.tree(0, 0), 0);
            Cases.due("tree(0, 1)", f.tree(0, 1), 0);
            Cases.due("tree(0, 2)", f.tree(0, 2), 12);
            Cases.due("tree(22, 0)", f.tree(22, 0), 1);
            Cases.due("tree(22, 1)", f.tree(22, 1), 11);
            Cases.due("tree(22, 2)", f.tree(22, 2), 12);
        });
        Cases.add(33, "NONE without that PIECE", () -> {
            PackedForest f = Cases.of("S=SS;S=a", "aa");
            for (int k : Cases.outside(2)) {
                for (int what = 0; what < 3; what++) {
                    Cases.due("tree(" + k + ", " + what + ")", f.tree(k, what), -1);
                }
            }
            Cases.due("tree(2, 2)", f.tree(2, 2), 2);
        });
        Cases.add(33, "NONE for other whats", () -> {
            PackedForest f = Cases.of("S=a", "a");
            for (int what : Cases.outside(2)) {
                Cases.due("tree(0, " + what + ")", f.tree(0, what), -1);
            }
        });
        Cases.add(33, "NONE, if there is none", () -> {
            PackedForest f = Cases.of("S=a", "b");
            for (int what = 0; what < 3; what++) {
                Cases.due("tree(0, " + what + ")", f.tree(0, what), -1);
            }
        });
        Cases.add(33, "NONE without a GRAMMAR", () -> Cases.due("tree(0, 0)", new PackedForest().tree(0, 0), -1));
    }

    // ---- 34 and 35

    private static void wholeDue(String sentence, String grammar, String text, int want) {
        Cases.add(34, sentence + ": " + grammar + " for '" + text + "'", () ->
            Cases.due("whole()", Cases.of(grammar, text).whole(), want));
    }

    private static void whole() {
        wholeDue("all of an empty TEXT", "S=", "", 0);
        wholeDue("none of an empty TEXT", "S=a", "", -2);
        wholeDue("the empty row alone", "S=", "aaa", 0);
        wholeDue("none", "S=b", "ab", -2);
        wholeDue("the first alone", "S=a", "ab", 1);
        wholeDue("all but the last", "S=ab", "abb", 2);
        wholeDue("all twelve", "S=aS;S=", "aaaaaaaaaaaa", 12);
        wholeDue("eleven of twelve", "S=aS;S=", "aaaaaaaaaaab", 11);
        wholeDue("the greatest, not the first", "S=a;S=aaa", "aaaa", 3);
        wholeDue("the START alone", "S=a;A=aa", "aa", 1);
        wholeDue("whether ALLOWED or not", "S=A:2;A=aa:1;S=a", "aa", 2);
        wholeDue("one that derives no row", "S=aS", "aa", -2);
        Cases.add(34, "RULES that are STRUCK are out of it", () -> {
            PackedForest f = Cases.of("S=aa;S=a;S=", "aa");
            for (int rule = 0; rule < 3; rule++) {
                Cases.due("whole()", f.whole(), 2 - rule);
                f.strike(rule);
            }
            Cases.due("whole(), all STRUCK", f.whole(), -2);
        });
        Cases.add(34, "NONE without a GRAMMAR", () -> Cases.due("whole()", new PackedForest().whole(), -1));
    }

    private static void mendDue(String sentence, String grammar, String text, int want) {
        Cases.add(35, sentence + ": " + grammar + " for '" + text + "'", () ->
            Cases.due("mend()", Cases.of(grammar, text).mend(), want));
    }

    private static void mend() {
        mendDue("none", "S=ab", "ab", 0);
        mendDue("none of an empty TEXT", "S=", "", 0);
        mendDue("put in, at the beginning", "S=abc", "bc", 1);
        mendDue("put in, between", "S=abc", "ac", 1);
        mendDue("put in, at the end", "S=abc", "ab", 1);
        mendDue("left out, at the beginning", "S=abc", "dabc", 1);
        mendDue("left out, between", "S=abc", "abdc", 1);
        mendDue("left out, at the end", "S=abc", "abcd", 1);
        mendDue("changed, at the beginning", "S=abc", "dbc", 1);
        mendDue("changed, between", "S=abc", "adc", 1);
        mendDue("changed, at the end", "S=abc", "abd", 1);
        mendDue("all three", "S=abcd", "xbdd", 2);
        mendDue("two that stand in the other order", "S=ab", "ba", 2);
        mendDue("all of them left out", "S=", "abcdefghijkl", 12);
        mendDue("all of them put in", "S=abcd", "", 4);
        mendDue("all of them changed", "S=abcd", "efgh", 4);
        mendDue("all twelve but one left out", "S=a", "bbbbbbbbbbbb", 12);
        mendDue("more than a TEXT has put in", "S=AAAA;A=BBBB;B=CCCC;C=DDDD;D=aaaa", "aaaaaaaaaaaa", 1012);
        mendDue("as many as the shortest row has", "S=AAAA;A=BBBB;B=CCCC;C=DDDD;D=aaaa", "", 1024);
        mendDue("of several rows the nearest, not the shortest", "S=a;S=bbbb", "bbb", 1);
        mendDue("through a ring", "S=A;A=S;A=ab", "b", 1);
        mendDue("an EMPTY one at the end", "S=aA;A=", "a", 0);
        mendDue("an EMPTY one between", "S=abAc;A=", "abc", 0);
        mendDue("EMPTY ones", "S=ABC;A=;A=a;B=b;C=;C=c", "c", 1);
        mendDue("-2: the START derives no row", "S=aS", "a", -2);
        mendDue("-2: the START derives no row, another one does", "S=aS;A=a", "a", -2);
        mendDue("-2: nor for an empty TEXT", "S=S", "", -2);
        mendDue("whether ALLOWED or not", "S=A:2;A=a:1", "a", 0);
        Cases.add(35, "RULES that are STRUCK are out of it", () -> {
            PackedForest f = Cases.of("S=a;S=bb", "a");
            f.strike(0);
            Cases.due("mend()", f.mend(), 2);
            f.strike(1);
            Cases.due("mend(), all STRUCK", f.mend(), -2);
        });
        Cases.add(35, "BANS don't matter", () -> {
            PackedForest f = Cases.of("S=A;A=a", "a");
            f.ban(0, 0, 1);
            Cases.due("mend()", f.mend(), 0);
        });
        Cases.add(35, "NONE without a GRAMMAR", () -> Cases.due("mend()", new PackedForest().mend(), -1));
    }
}
