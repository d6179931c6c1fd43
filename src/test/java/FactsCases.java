/** Boundary cases of promises 7 to 15: facts, firsts, follows, shortest rows, states, clashes. */
final class FactsCases {
    private static final int A = 26;
    private static final int B = 27;
    private static final int S = 44;
    private static final int Z = 51;
    private static final int EMPTY = 0;
    private static final int ENDS = 1;
    private static final int REACHED = 2;
    private static final int LOOPS = 3;
    private static final int RECURS = 4;
    private static final int LEFTS = 5;

    private FactsCases() { }

    static void add() {
        emptyAndEnds();
        reachedAndLefts();
        loops();
        recurs();
        facts();
        smallsAreNoCapitals();
        firsts();
        follows();
        shortest();
        statesFound();
        goes();
        points();
        done();
        clashes();
        clashesOfEnds();
    }

    /** A fact of a grammar, whatever rules are struck. */
    private static void fact(String sentence, String grammar, int what, String want, int... struck) {
        Cases.add(7, sentence + ": " + grammar, () ->
            Cases.due("facts(" + what + ")", withStruck(grammar, struck).facts(what), Cases.set(want)));
    }

    private static PackedForest withStruck(String grammar, int... struck) {
        PackedForest f = Cases.of(grammar);
        for (int rule : struck) {
            f.strike(rule);
        }
        return f;
    }

    // ---- 7

    private static void emptyAndEnds() {
        fact("EMPTY: an empty RIGHT side", "S=", EMPTY, "S");
        fact("EMPTY: no SMALL", "S=a", EMPTY, "");
        fact("EMPTY: CAPITALS that are, all four", "S=AAAB;A=;B=A", EMPTY, "SAB");
        fact("EMPTY: all but one of four are", "S=AAAB;A=;B=b", EMPTY, "A");
        fact("EMPTY: all four but the first are", "S=BAAA;A=;B=b", EMPTY, "A");
        fact("EMPTY: by one RULE of several", "S=a;S=SS;S=", EMPTY, "S");
        fact("EMPTY: not if that RULE is STRUCK", "S=a;S=SS;S=", EMPTY, "", 2);
        fact("EMPTY: told as bits A to Z", "A=Z;Z=", EMPTY, "AZ");
        fact("EMPTY: those that are not REACHED, too", "S=a;B=", EMPTY, "B");
        fact("EMPTY: not of itself alone", "S=S", EMPTY, "");
        fact("ENDS: any row, the empty one too", "S=;A=a", ENDS, "SA");
        fact("ENDS: not of itself alone", "S=aS;A=A;B=b", ENDS, "B");
        fact("ENDS: not with one CAPITAL that does not", "S=aAbS;A=;B=AAAS", ENDS, "A");
        fact("ENDS: told only behind others", "S=A;A=B;B=C;C=D;D=d", ENDS, "SABCD");
        fact("ENDS: not if all its RULES are STRUCK", "S=A;A=a;A=b", ENDS, "", 1, 2);
        fact("ENDS: one RULE that is not STRUCK", "S=A;A=a;A=b", ENDS, "SA", 1);
    }

    private static void reachedAndLefts() {
        fact("REACHED: the START, if it stands alone", "S=a;A=a", REACHED, "S");
        fact("REACHED: the START, if all its RULES are STRUCK", "S=A;A=a", REACHED, "S", 0);
        fact("REACHED: on the RIGHT side of a RULE whose LEFT is", "S=aaaA;A=B;B=b;C=C", REACHED, "SAB");
        fact("REACHED: at two PLACES, and at four", "S=AA;A=BBBB;B=b", REACHED, "SAB");
        fact("REACHED: not by a RULE whose LEFT is not", "S=a;A=B;B=A", REACHED, "S");
        fact("REACHED: told behind the one it is reached from", "S=D;A=a;B=A;C=B;D=C", REACHED, "SABCD");
        fact("REACHED: not by a RULE that is STRUCK", "S=A;A=B;B=b", REACHED, "SA", 1);
        fact("REACHED: whether it ENDS or not", "S=A;A=BA;B=b", REACHED, "SAB");
        fact("all CAPITALS on LEFT sides, as bits", "A=a;Z=z;M=m", LEFTS, "AMZ");
        fact("RULES that are STRUCK, too", "A=a;Z=z;M=m", LEFTS, "AMZ", 0, 1, 2);
    }

    private static void loops() {
        fact("LOOPS: by one such step", "S=S;S=a", LOOPS, "S");
        fact("LOOPS: by five", "S=A;A=B;B=C;C=D;D=S;D=d", LOOPS, "SABCD");
        fact("LOOPS: by no step at all none does", "S=a;S=A;A=b", LOOPS, "");
        fact("LOOPS: those that lead to a ring are not on it", "S=A;A=A;A=a", LOOPS, "A");
        fact("LOOPS: EMPTY ones left out ahead", "S=AAAS;A=;S=a", LOOPS, "S");
        fact("LOOPS: EMPTY ones left out behind", "S=SAAA;A=;S=a", LOOPS, "S");
        fact("LOOPS: EMPTY ones left out on both sides", "S=AASA;A=;S=a", LOOPS, "S");
        fact("LOOPS: one that is not EMPTY can't be left out ahead", "S=AS;A=a;S=b", LOOPS, "");
        fact("LOOPS: one that is not EMPTY can't be left out behind", "S=SA;A=a;S=b", LOOPS, "");
        fact("LOOPS: a SMALL can't be left out", "S=aS;S=Sa;S=", LOOPS, "");
        fact("LOOPS: itself EMPTY, twice", "S=SS;S=", LOOPS, "S");
        fact("LOOPS: itself not EMPTY, twice", "S=SS;S=a", LOOPS, "");
        fact("LOOPS: whether it ENDS or not", "S=S", LOOPS, "S");
        fact("LOOPS: whether it is REACHED or not", "S=a;A=B;B=A", LOOPS, "AB");
        fact("LOOPS: not by a RULE that is STRUCK", "S=S;S=a", LOOPS, "", 0);
        fact("LOOPS: not if what was EMPTY is STRUCK", "S=AS;A=;A=a", LOOPS, "", 1);
    }

    private static void recurs() {
        fact("RECURS: by one such step", "S=Sa;S=b", RECURS, "S");
        fact("RECURS: by five", "S=Aa;A=Ba;B=Ca;C=Da;D=Sa", RECURS, "SABCD");
        fact("RECURS: by no step at all none does", "S=A;A=b", RECURS, "");
        fact("RECURS: those that lead to a ring are not on it", "S=Aa;A=Aa;A=a", RECURS, "A");
        fact("RECURS: EMPTY ones left out ahead", "S=AAAS;A=;S=a", RECURS, "S");
        fact("RECURS: one that is not EMPTY can't be left out", "S=AS;A=a;S=b", RECURS, "");
        fact("RECURS: one of two that is not EMPTY", "S=ABS;A=;B=b;S=c", RECURS, "");
        fact("RECURS: a SMALL can't be left out", "S=aS;S=", RECURS, "");
        fact("RECURS: the last SYMBOL is no beginning", "S=aaaS;S=b", RECURS, "");
        fact("RECURS: alone is a beginning, too", "S=S", RECURS, "S");
        fact("RECURS: what stands behind does not matter", "S=SZ;Z=Z", RECURS, "SZ");
        fact("RECURS: whether it is REACHED or not", "S=a;A=Ba;B=Ab", RECURS, "AB");
        fact("RECURS: not by a RULE that is STRUCK", "S=Sa;S=a", RECURS, "", 0);
        fact("RECURS: not if what was EMPTY is STRUCK", "S=ASb;A=;A=a", RECURS, "", 1);
    }

    private static void facts() {
        Cases.add(7, "NONE for others", () -> {
            PackedForest f = Cases.of("S=a");
            for (int what : Cases.outside(5)) {
                Cases.due("facts(" + what + ")", f.facts(what), -1);
            }
        });
        Cases.add(7, "NONE without a GRAMMAR", () -> {
            for (int what = 0; what < 6; what++) {
                Cases.due("facts(" + what + ")", new PackedForest().facts(what), -1);
            }
        });
        Cases.add(7, "bits 0 and 25", () -> {
            PackedForest f = Cases.of("A=Z;Z=A;Z=");
            for (int what = 0; what < 6; what++) {
                Cases.due("facts(" + what + ")", f.facts(what), 1 | 1 << 25);
            }
        });
        Cases.add(7, "the TEXT, BANS and FILTERS don't matter", () -> {
            PackedForest f = Cases.of("S=SS:2!;S=:1", "ab");
            f.ban(0, 0, 0);
            f.ban(0, 0, 1);
            for (int what = 0; what < 6; what++) {
                Cases.due("facts(" + what + ")", f.facts(what), Cases.set("S"));
            }
        });
    }

    /** Whatever letter it is: a small is no capital of another number. */
    private static void smallsAreNoCapitals() {
        Cases.add(7, "a SMALL is no CAPITAL, nor EMPTY", () -> {
            for (char small = 'a'; small <= 'z'; small++) {
                for (int shift : new int[] {0, 6}) {
                    char capital = (char) ('A' + (small - 'a' + shift) % 26);
                    PackedForest f = Cases.of(capital + "=" + small + capital + small + ";" + capital + "=" + small);
                    int[] wants = {0, 1, 1, 0, 0, 1};
                    for (int what = 0; what < 6; what++) {
                        Cases.due("facts(" + what + ") of " + capital + small, f.facts(what), wants[what] << (capital - 'A'));
                    }
                }
            }
        });
    }

    // ---- 8 and 9

    private static void first(String sentence, String grammar, char capital, String want, int... struck) {
        Cases.add(8, sentence + ": " + grammar, () ->
            Cases.due("firsts(" + capital + ")", withStruck(grammar, struck).firsts(Cases.letter(capital)), Cases.set(want)));
    }

    private static void follow(String sentence, String grammar, char capital, String want, int... struck) {
        Cases.add(9, sentence + ": " + grammar, () ->
            Cases.due("follows(" + capital + ")", withStruck(grammar, struck).follows(Cases.letter(capital)), Cases.set(want)));
    }

    private static void noCapital(int promise) {
        Cases.add(promise, "NONE without one on a LEFT side", () -> {
            PackedForest f = Cases.of("B=zaY;Y=");
            for (int no : new int[] {-1, 0, 1, 24, 25, 26, 28, 49, 51, 52, 53, 58, Cases.MIN, Cases.MIN + 27, Cases.MAX}) {
                int got = promise == 8 ? f.firsts(no) : promise == 9 ? f.follows(no) : f.shortest(no);
                Cases.due("of " + no, got, -1);
            }
        });
        Cases.add(promise, "NONE without a GRAMMAR", () -> {
            PackedForest f = new PackedForest();
            for (int no : new int[] {0, A, S, Z}) {
                int got = promise == 8 ? f.firsts(no) : promise == 9 ? f.follows(no) : f.shortest(no);
                Cases.due("of " + no, got, -1);
            }
        });
    }

    private static void firsts() {
        first("none", "S=", 'S', "");
        first("SMALLS as bits 0 to 25", "A=a;A=z", 'A', "az");
        first("the first SMALL alone", "S=abcd", 'S', "a");
        first("of a CAPITAL that stands first", "S=Ab;A=cd;A=e", 'S', "ce");
        first("CAPITALS that are EMPTY can be left out, three of them", "S=AAAb;A=a;A=", 'S', "ab");
        first("one SMALL by both", "S=Aa;A=a;A=", 'S', "a");
        first("one SMALL by both, told ahead", "A=a;A=;S=Aa", 'S', "a");
        first("one SMALL by two CAPITALS", "S=AB;A=a;A=;B=a;B=", 'S', "a");
        first("all of them EMPTY", "S=AB;A=a;A=;B=b;B=", 'S', "ab");
        first("one that is not EMPTY can't be left out", "S=Ab;A=a", 'S', "a");
        first("behind one that is not EMPTY", "S=ABc;A=a;A=;B=b", 'S', "ab");
        first("of itself behind EMPTY ones", "S=ASb;S=c;A=;A=a", 'S', "ac");
        first("whether these END or not", "S=aZ;Z=Z", 'S', "a");
        first("of one that does not END", "Z=AbZ;A=a;A=", 'Z', "ab");
        first("behind one that does not END and has none", "S=Za;Z=Z", 'S', "");
        first("whether it is REACHED or not", "S=s;B=b", 'B', "b");
        first("not by a RULE that is STRUCK", "S=a;S=b", 'S', "b", 0);
        first("not behind one whose empty RULE is STRUCK", "S=Ab;A=a;A=", 'S', "a", 2);
        first("all its RULES STRUCK", "S=a", 'S', "", 0);
        first("through five", "S=A;A=B;B=C;C=D;D=d", 'S', "d");
        first("through five, told ahead", "D=d;C=D;B=C;A=B;S=A", 'S', "d");
        first("through one told between two", "S=A;A=a;S=b;A=S;A=c", 'S', "abc");
        noCapital(8);
    }

    private static void follows() {
        follow("the START can be the last", "S=a", 'S', "$");
        follow("the START can be the last, all its RULES STRUCK", "S=a", 'S', "$", 0);
        follow("a SMALL right behind it", "S=aSz;S=", 'S', "z$");
        follow("a SMALL behind a SMALL is not right behind it", "S=Aab;A=", 'A', "a");
        follow("it can be the last, as the last SYMBOL", "S=aA;A=a", 'A', "$");
        follow("it can't be the last", "S=Ab;A=a", 'A', "b");
        follow("EMPTY ones left out behind it, three of them", "S=ABBB;A=a;B=b;B=", 'A', "b$");
        follow("EMPTY ones left out ahead of a SMALL", "S=ABBc;A=a;B=b;B=", 'A', "bc");
        follow("one behind it that is not EMPTY", "S=ABc;A=a;B=b", 'A', "b");
        follow("one SMALL by both", "S=Ab;A=CD;C=c;D=b;D=", 'C', "b");
        follow("one SMALL at two PLACES", "S=AbAb;A=c", 'A', "b");
        follow("what can FOLLOW the LEFT, too", "S=aSb;S=A;A=c", 'A', "b$");
        follow("what can FOLLOW the LEFT of its LEFT, too", "S=Bc;S=dBe;B=A;A=a", 'A', "ce");
        follow("through four, told ahead of it", "S=z;C=D;B=C;A=B;S=Ax;D=d", 'D', "x");
        follow("through one told ahead of two RULES", "S=z;A=B;C=D;S=Aa;S=Cb;B=b;D=d", 'B', "a");
        follow("through one told ahead of one RULE with two", "S=z;A=B;C=D;S=AaCb;B=b;D=d", 'B', "a");
        follow("through one told between two", "S=Aa;A=B;S=Ab;B=c", 'B', "ab");
        follow("at more than one PLACE of a RULE", "S=AaAb;A=c", 'A', "ab");
        follow("itself behind itself", "S=AA;A=a", 'A', "a$");
        follow("a RULE whose LEFT is not REACHED adds nothing", "S=Aa;A=c;B=Ab", 'A', "a");
        follow("one that is not REACHED has none", "S=a;B=Ab;A=c", 'A', "");
        follow("one that is not REACHED, though it is in its own RULE", "S=a;B=Bb", 'B', "");
        follow("not by a RULE that is STRUCK", "S=Aa;S=Ab;A=c", 'A', "b", 0);
        follow("not if it is REACHED by a STRUCK RULE alone", "S=B;S=a;B=Ab;A=c", 'A', "", 0);
        follow("whether these END or not", "S=AZ;A=a;Z=bZ", 'A', "b");
        follow("behind it one that does not END, has none and is not EMPTY", "S=AZb;A=a;Z=Z", 'A', "");
        follow("in a row that never ENDS", "S=ZAb;A=a;Z=Z", 'A', "b");
        follow("SMALLS as bits 0 to 25", "S=Aa;S=Az;A=b", 'A', "az");
        noCapital(9);
    }

    // ---- 10

    private static void shortRow(String sentence, String grammar, char capital, int want, int... struck) {
        Cases.add(10, sentence + ": " + grammar, () ->
            Cases.due("shortest(" + capital + ")", withStruck(grammar, struck).shortest(Cases.letter(capital)), want));
    }

    private static void shortest() {
        shortRow("the empty row", "S=", 'S', 0);
        shortRow("of four SMALLS", "S=abcd", 'S', 4);
        shortRow("the shortest, told last", "S=abcd;S=abc;S=ab;S=a", 'S', 1);
        shortRow("the shortest, told first", "S=a;S=ab", 'S', 1);
        shortRow("the shortest by more CAPITALS", "S=abcd;S=ABAB;A=;B=b", 'S', 2);
        shortRow("the longest there can be", "S=AAAA;A=BBBB;B=CCCC;C=DDDD;D=aaaa", 'S', 1024);
        shortRow("it derives none: -2", "S=aS", 'S', -2);
        shortRow("it derives none, by another", "S=aA;A=A", 'S', -2);
        shortRow("it derives none, all its RULES STRUCK", "S=a", 'S', -2, 0);
        shortRow("the shortest STRUCK", "S=ab;S=", 'S', 2, 1);
        shortRow("one that is not REACHED", "S=;B=ab", 'B', 2);
        shortRow("A", "A=Z;Z=zz", 'A', 2);
        shortRow("Z", "A=Z;Z=zz", 'Z', 2);
        Cases.add(10, "BANS and FILTERS don't matter", () -> {
            PackedForest f = Cases.of("S=A:2;A=a:1;A=ab");
            f.ban(0, 0, 2);
            Cases.due("shortest(44)", f.shortest(S), 1);
        });
        noCapital(10);
    }

    // ---- 11 to 14

    private static void statesFound() {
        Cases.add(11, "STATE 0 alone", () -> Cases.due("S=", Cases.of("S=").states(), 1));
        Cases.add(11, "STATE 0 is there, if all RULES of the START are STRUCK", () ->
            Cases.due("states()", withStruck("S=a;A=a", 0).states(), 1));
        Cases.add(11, "90 of them", () -> {
            PackedForest f = Cases.of("S=aS;A=bB;B=baC;C=babC;A=bbbB;C=aA;B=abbC;C=bbS;C=bC;S=bbbB;B=bbbB;S=abb");
            Cases.due("states()", f.states(), 90);
            Cases.due("done(89) is one", f.done(89) < 0 ? 0 : 1, 1);
            Cases.due("done(90) is none", f.done(90), -1);
        });
        Cases.add(11, "none of CAPITALS that are not REACHED", () ->
            Cases.due("S=a;B=bcd", Cases.of("S=a;B=bcd").states(), 2));
        Cases.add(11, "of CAPITALS that do not END, too", () ->
            Cases.due("S=aS", Cases.of("S=aS").states(), 3));
        Cases.add(11, "one that was found is none again", () ->
            Cases.due("S=SaS;S=SbS;S=c", Cases.of("S=SaS;S=SbS;S=c").states(), 7));
        Cases.add(11, "a set with one POINT more is another one", () ->
            Cases.due("S=aA;S=bB;A=c;B=c;B=cd", Cases.of("S=aA;S=bB;A=c;B=c;B=cd").states(), 8));
        Cases.add(11, "RULES that are STRUCK have none", () ->
            Cases.due("S=a;S=bcd", withStruck("S=a;S=bcd", 1).states(), 2));
        Cases.add(11, "NONE without a GRAMMAR", () -> Cases.due("states()", new PackedForest().states(), -1));
    }

    /** States: 0 S=.zA S=.AbZ A=.a, 1 S=A.bZ, 2 A=a., 3 S=z.A A=.a, 4 S=Ab.Z Z=., 5 S=zA., 6 S=AbZ. */
    private static final String SEVEN = "S=zA;S=AbZ;A=a;Z=";

    private static void goes() {
        Cases.add(12, "numbers as they are found: by CAPITALS from A on, then SMALLS from a on", () -> {
            PackedForest f = Cases.of(SEVEN);
            int[][] goes = {{0, A, 1}, {0, 0, 2}, {0, 25, 3}, {1, 1, 4}, {3, A, 5}, {4, Z, 6}};
            for (int[] go : goes) {
                Cases.due("goes(" + go[0] + ", " + go[1] + ")", f.goes(go[0], go[1]), go[2]);
            }
        });
        Cases.add(12, "from STATE 0 on each in turn", () -> {
            PackedForest f = Cases.of("S=ac;S=bd;S=cb;S=da");
            int[][] goes = {{0, 0, 1}, {0, 1, 2}, {0, 2, 3}, {0, 3, 4}, {1, 2, 5}, {2, 3, 6}, {3, 1, 7}, {4, 0, 8}};
            for (int[] go : goes) {
                Cases.due("goes(" + go[0] + ", " + go[1] + ")", f.goes(go[0], go[1]), go[2]);
            }
        });
        Cases.add(12, "CAPITALS in their order, not in that of the RULES", () -> {
            PackedForest f = Cases.of("S=Z;S=BZ;S=AZ;A=;B=;Z=");
            Cases.due("goes(0, A)", f.goes(0, A), 1);
            Cases.due("goes(0, B)", f.goes(0, B), 2);
            Cases.due("goes(0, Z)", f.goes(0, Z), 3);
        });
        Cases.add(12, "one that was found is none again", () -> {
            PackedForest f = Cases.of(SEVEN);
            Cases.due("goes(3, a)", f.goes(3, 0), 2);
            PackedForest ring = Cases.of("S=aS;S=b");
            Cases.due("goes(1, a)", ring.goes(1, 0), 1);
        });
        Cases.add(12, "-2: nowhere", () -> {
            PackedForest f = Cases.of(SEVEN);
            int[][] nowhere = {{0, 1}, {0, S}, {0, Z}, {0, B}, {1, 0}, {2, 0}, {4, A}, {6, 25}, {6, Z}};
            for (int[] go : nowhere) {
                Cases.due("goes(" + go[0] + ", " + go[1] + ")", f.goes(go[0], go[1]), -2);
            }
        });
        Cases.add(12, "SYMBOLS 0 to 51", () -> {
            PackedForest f = Cases.of(SEVEN);
            Cases.due("goes(4, 51)", f.goes(4, 51), 6);
            Cases.due("goes(2, 0)", f.goes(2, 0), -2);
            for (int symbol : Cases.outside(51)) {
                Cases.due("goes(0, " + symbol + ")", f.goes(0, symbol), -1);
            }
        });
        Cases.add(12, "NONE without that STATE", () -> {
            PackedForest f = Cases.of(SEVEN);
            for (int state : Cases.outside(6)) {
                Cases.due("goes(" + state + ", 0)", f.goes(state, 0), -1);
            }
        });
        Cases.add(12, "NONE without a GRAMMAR", () -> Cases.due("goes(0, 0)", new PackedForest().goes(0, 0), -1));
        Cases.add(12, "not by what is STRUCK", () -> {
            PackedForest f = withStruck(SEVEN, 0);
            Cases.due("goes(0, z)", f.goes(0, 25), -2);
            Cases.due("goes(0, a)", f.goes(0, 0), 2);
        });
    }

    private static void points() {
        Cases.add(13, "POINT 0 to as many as it has SYMBOLS", () -> {
            PackedForest f = Cases.of("S=abcd");
            for (int state = 0; state <= 4; state++) {
                Cases.due("points(" + state + ", 0)", f.points(state, 0), 1 << state);
            }
        });
        Cases.add(13, "POINT 0 of an empty RIGHT side", () ->
            Cases.due("points(0, 0)", Cases.of("S=").points(0, 0), 1));
        Cases.add(13, "more than one of a RULE in one STATE", () -> {
            PackedForest f = Cases.of("S=SS;S=a");
            Cases.due("points(0, 0)", f.points(0, 0), 1);
            Cases.due("points(1, 0)", f.points(1, 0), 3);
            Cases.due("points(3, 0)", f.points(3, 0), 7);
        });
        Cases.add(13, "CLOSED: POINT 0 of each RULE with that LEFT, through others", () -> {
            PackedForest f = Cases.of("S=A;A=B;B=b;B=c;C=c");
            for (int rule = 0; rule < 4; rule++) {
                Cases.due("points(0, " + rule + ")", f.points(0, rule), 1);
            }
            Cases.due("points(0, 4)", f.points(0, 4), 0);
        });
        Cases.add(13, "CLOSED: through others, told ahead and behind, at STATE 0", () -> {
            for (String grammar : new String[] {"A=B;B=C;C=D;D=E;E=e", "E=D;D=C;C=B;B=A;A=a", "C=A;A=E;E=B;B=D;D=d"}) {
                PackedForest f = Cases.of(grammar);
                for (int rule = 0; rule < 5; rule++) {
                    Cases.due("points(0, " + rule + ") of " + grammar, f.points(0, rule), 1);
                }
            }
        });
        Cases.add(13, "CLOSED: through others, told ahead and behind, at the next STATE", () -> {
            for (String grammar : new String[] {"S=aA;A=B;B=C;C=D;D=d", "S=aD;D=C;C=B;B=A;A=a", "S=aB;A=D;D=d;B=C;C=A"}) {
                PackedForest f = Cases.of(grammar);
                for (int rule = 1; rule < 5; rule++) {
                    Cases.due("points(1, " + rule + ") of " + grammar, f.points(1, rule), 1);
                }
            }
        });
        Cases.add(13, "CLOSED: not behind an EMPTY CAPITAL", () -> {
            PackedForest f = Cases.of("S=AB;A=;B=b");
            Cases.due("points(0, 2)", f.points(0, 2), 0);
            Cases.due("points(1, 2)", f.points(1, 2), 1);
        });
        Cases.add(13, "STATE 0: POINT 0 of all RULES of the START", () -> {
            PackedForest f = Cases.of("S=a;A=a;S=b");
            Cases.due("points(0, 0)", f.points(0, 0), 1);
            Cases.due("points(0, 1)", f.points(0, 1), 0);
            Cases.due("points(0, 2)", f.points(0, 2), 1);
        });
        Cases.add(13, "of RULES 0 and 11, POINT 4", () -> {
            PackedForest f = Cases.of("S=abcd;" + "S=x;".repeat(10) + "S=abcd");
            Cases.due("points(0, 11)", f.points(0, 11), 1);
            int state = f.goes(f.goes(f.goes(f.goes(0, 0), 1), 2), 3);
            Cases.due("points of the last, 0", f.points(state, 0), 16);
            Cases.due("points of the last, 11", f.points(state, 11), 16);
            Cases.due("points of the last, 10", f.points(state, 10), 0);
        });
        Cases.add(13, "none of a RULE that is STRUCK", () -> {
            PackedForest f = withStruck("S=a;S=b", 1);
            Cases.due("points(0, 1)", f.points(0, 1), 0);
            Cases.due("points(0, 0)", f.points(0, 0), 1);
        });
        Cases.add(13, "NONE without that STATE, or that RULE", () -> {
            PackedForest f = Cases.of("S=a;S=a");
            for (int no : Cases.outside(1)) {
                Cases.due("points(" + no + ", 0)", f.points(no, 0), -1);
                Cases.due("points(0, " + no + ")", f.points(0, no), -1);
            }
            Cases.due("points(1, 1)", f.points(1, 1), 2);
        });
        Cases.add(13, "NONE without a GRAMMAR", () -> Cases.due("points(0, 0)", new PackedForest().points(0, 0), -1));
    }

    private static void done() {
        Cases.add(14, "the last POINT", () -> {
            PackedForest f = Cases.of("S=ab");
            Cases.due("done(0)", f.done(0), 0);
            Cases.due("done(1)", f.done(1), 0);
            Cases.due("done(2)", f.done(2), 1);
        });
        Cases.add(14, "behind it EMPTY CAPITALS, four of them", () -> {
            PackedForest f = Cases.of("S=AAAB;A=;B=A;B=b");
            Cases.due("done(0)", f.done(0), 3);
        });
        Cases.add(14, "behind it one that is not EMPTY", () -> {
            PackedForest f = Cases.of("S=aAB;A=;B=b");
            Cases.due("done(1)", f.done(1), 2);
        });
        Cases.add(14, "behind it a SMALL", () -> {
            PackedForest f = Cases.of("S=aAb;A=");
            Cases.due("done(1)", f.done(1), 2);
        });
        Cases.add(14, "a SMALL and EMPTY ones", () -> {
            PackedForest f = Cases.of("S=aAbA;A=");
            Cases.due("done(1)", f.done(1), 2);
            Cases.due("done behind b", f.done(f.goes(f.goes(1, A), 1)), 3);
        });
        Cases.add(14, "an empty RIGHT side", () -> Cases.due("done(0)", Cases.of("S=;S=a").done(0), 1));
        Cases.add(14, "RULES 0 and 11, as bits", () ->
            Cases.due("done(0)", Cases.of("S=;" + "S=x;".repeat(10) + "S=").done(0), 1 | 1 << 11));
        Cases.add(14, "by any of its POINTS", () -> {
            PackedForest f = Cases.of("S=SS;S=");
            Cases.due("done(1)", f.done(1), 3);
        });
        Cases.add(14, "not if what was EMPTY is STRUCK", () -> {
            PackedForest f = withStruck("S=aA;A=;A=b", 1);
            Cases.due("done(1)", f.done(1), 0);
        });
        Cases.add(14, "NONE without that STATE", () -> {
            PackedForest f = Cases.of("S=a");
            for (int state : Cases.outside(1)) {
                Cases.due("done(" + state + ")", f.done(state), -1);
            }
        });
        Cases.add(14, "NONE without a GRAMMAR", () -> Cases.due("done(0)", new PackedForest().done(0), -1));
    }

    // ---- 15

    private static void clash(String sentence, String grammar, int want, int... struck) {
        Cases.add(15, sentence + ": " + grammar, () ->
            Cases.due("clashes()", withStruck(grammar, struck).clashes(), want));
    }

    private static void clashes() {
        clash("none", "S=a", 0);
        clash("a RULE and that the STATE GOES by it", "S=SS;S=a", 1);
        clash("a RULE that can't be FOLLOWED by what it GOES by", "S=Ac;A=a;A=ab", 0);
        clash("a RULE that can be FOLLOWED by what it GOES by", "S=Ab;A=a;A=ab", 1);
        clash("that it GOES by a CAPITAL is no clash", "S=z;S=zA;A=AA", 0);
        clash("that it GOES by two SMALLS is no clash", "S=a;S=b", 0);
        clash("how many STATES, not how many SMALLS", "S=aA;S=aAb;S=aAc;A=d;A=db;A=dc", 1);
        clash("how many STATES", "S=Ab;A=a;A=ab;S=cB;B=dd;B=d;B=BB", 3);
        clash("of 12 RULES with 4 SYMBOLS each", "S=abcd;".repeat(11) + "S=abcd", 1);
        clash("of 90 STATES", "S=aS;A=bB;B=baC;C=babC;A=bbbB;C=aA;B=abbC;C=bbS;C=bC;S=bbbB;B=bbbB;S=abb", 4);
        clash("a SMALL a", "S=Aa;A=b;A=ba", 1);
        clash("a SMALL z", "S=Az;A=b;A=bz", 1);
        clash("not if it is STRUCK", "S=Ab;A=a;A=ab", 0, 2);
        clash("all STRUCK", "S=SS;S=a", 0, 0, 1);
        Cases.add(15, "NONE without a GRAMMAR", () -> Cases.due("clashes()", new PackedForest().clashes(), -1));
    }

    private static void clashesOfEnds() {
        clash("two RULES for the end", "S=A;S=B;A=a;B=a", 1);
        clash("two RULES for a SMALL", "S=Ac;S=Bc;A=a;B=a", 1);
        clash("two RULES that nothing FOLLOWS at once", "S=Ab;S=Bc;A=a;B=a", 0);
        clash("two RULES, one for the end, one for a SMALL", "S=A;S=Bc;A=a;B=a", 0);
        clash("two RULES of one LEFT", "S=a;S=a", 1);
        clash("the first and the third of three", "S=Ab;S=Bc;S=Cb;A=a;B=a;C=a", 1);
        clash("the second of two, and that the STATE GOES by it", "S=Ab;S=Bc;S=ac;A=a;B=a", 1);
        clash("one RULE alone for the end", "S=aA;A=b;A=bA", 0);
        clash("a POINT with EMPTY CAPITALS behind it is not the last one", "S=aA;A=;A=b", 0);
        clash("an empty RIGHT side is there with its last POINT", "S=Aa;A=;S=a", 1);
        clash("two empty RIGHT sides", "S=A;S=B;A=;B=", 1);
        clash("one RULE STRUCK of two", "S=a;S=a", 0, 1);
    }
}
