/** Boundary cases of promises 36 to 40: draws, sentences, counts, images; and what changes nothing. */
final class DrawsCases {
    private static final int A = 26;
    private static final int S = 44;
    private static final int X = 7;
    private static final String TEN_RULES = "S=a;S=b;S=c;S=d;S=e;S=f;S=g;S=h;S=i;S=j";
    /** Of x 0: 0 / 65536 of 12345, 1406932606, 654583775, 1449466924, and so on. */
    private static final int[] DRAWS = {0, 21468, 9988, 22117, 3498, 16927, 16045, 19741, 12122, 8410};

    private DrawsCases() { }

    static void add() {
        seed();
        draws();
        spoken();
        spokenAnswers();
        givenUp();
        replaced();
        count();
        image();
        back();
        backAsItWas();
        asking();
    }

    // ---- 36

    private static void seed() {
        Cases.add(36, "what it was; 0 at first", () -> {
            PackedForest f = new PackedForest();
            Cases.due("seed(5)", f.seed(5), 0);
            Cases.due("seed(7)", f.seed(7), 5);
            Cases.due("count(7)", f.count(X), 7);
        });
        Cases.add(36, "0 to 2147483647", () -> {
            PackedForest f = new PackedForest();
            Cases.due("seed(MAX)", f.seed(Cases.MAX), 0);
            Cases.due("count(7)", f.count(X), Cases.MAX);
            Cases.due("seed(0)", f.seed(0), Cases.MAX);
            Cases.due("count(7)", f.count(X), 0);
        });
        Cases.add(36, "NONE, and nothing happens, below 0", () -> {
            PackedForest f = new PackedForest();
            f.seed(9);
            for (int x : new int[] {-1, -2, Cases.MIN, Cases.MIN + 1}) {
                Cases.due("seed(" + x + ")", f.seed(x), -1);
                Cases.due("count(7)", f.count(X), 9);
            }
        });
        Cases.add(36, "no ACT", () -> {
            PackedForest f = Cases.of("S=a", "a");
            f.seed(9);
            Cases.due("undo()", f.undo(), 0);
            Cases.due("count(7)", f.count(X), 9);
        });
    }

    // ---- 37

    private static void draws() {
        Cases.add(37, "x * 1103515245 + 12345, of 2147483648 the rest; a DRAW is x / 65536", () -> {
            PackedForest f = Cases.of(TEN_RULES);
            for (int t = 1; t <= 10; t++) {
                Cases.due("spoken(" + t + ", 0)", f.spoken(t, 0), DRAWS[t - 1] % 10);
            }
        });
        Cases.add(37, "of x 2147483647", () -> {
            PackedForest f = Cases.of(TEN_RULES);
            f.seed(Cases.MAX);
            // 1043980748 / 65536 is 15929.
            Cases.due("spoken(1, 0)", f.spoken(1, 0), 9);
        });
        Cases.add(37, "of other numbers", () -> {
            int[][] runs = {{1, 16838}, {2, 908}, {12345, 21468}, {65535, 3238}, {65536, 20077}, {1073741823, 32313},
                {1073741824, 16384}, {1600000000, 9197}};
            PackedForest f = Cases.of(TEN_RULES + ";S=k");
            for (int[] run : runs) {
                f.seed(run[0]);
                Cases.due("spoken(1, 0) of x " + run[0], f.spoken(1, 0), run[1] % 11);
            }
        });
        Cases.add(37, "12 RULES", () -> {
            PackedForest f = Cases.of(TEN_RULES + ";S=k;S=l");
            for (int t = 1; t <= 10; t++) {
                Cases.due("spoken(" + t + ", 0)", f.spoken(t, 0), DRAWS[t - 1] % 12);
            }
        });
    }

    private static void spoken() {
        Cases.add(37, "the first CAPITAL is replaced, each by a DRAW, though it has one RULE", () -> {
            PackedForest f = Cases.of("S=AB;A=a;A=b;A=c;B=a;B=b;B=c");
            Cases.due("spoken(1, 0)", f.spoken(1, 0), DRAWS[1] % 3);
            Cases.due("spoken(1, 1)", f.spoken(1, 1), DRAWS[2] % 3);
            Cases.due("spoken(2, 0)", f.spoken(2, 0), DRAWS[4] % 3);
            Cases.due("spoken(2, 1)", f.spoken(2, 1), DRAWS[5] % 3);
        });
        Cases.add(37, "the number among its RULES, not among all", () -> {
            PackedForest f = Cases.of("S=xA;A=a;B=y;A=b;B=z;A=c;A=d;A=e");
            Cases.due("spoken(1, 1)", f.spoken(1, 1), DRAWS[1] % 5);
            Cases.due("spoken(2, 1)", f.spoken(2, 1), DRAWS[3] % 5);
            Cases.due("spoken(3, 1)", f.spoken(3, 1), DRAWS[5] % 5);
        });
        Cases.add(37, "RULES that are STRUCK are none of these", () -> {
            PackedForest f = Cases.of(TEN_RULES);
            f.strike(0);
            f.strike(4);
            f.strike(9);
            int[] left = {1, 2, 3, 5, 6, 7, 8};
            for (int t = 1; t <= 10; t++) {
                Cases.due("spoken(" + t + ", 0)", f.spoken(t, 0), left[DRAWS[t - 1] % 7]);
            }
        });
        Cases.add(37, "t times one behind the other, the last one counts", () -> {
            PackedForest f = Cases.of("S=aS;S=b");
            // Draws 0, 0, 0, 1 | 0, 1 | 1 | 1 | 0, 0, ..
            Cases.due("spoken(1, -1)", f.spoken(1, -1), 4);
            Cases.due("spoken(2, -1)", f.spoken(2, -1), 2);
            Cases.due("spoken(3, -1)", f.spoken(3, -1), 1);
            Cases.due("spoken(4, -1)", f.spoken(4, -1), 1);
        });
        Cases.add(37, "x as it was", () -> {
            PackedForest f = Cases.of(TEN_RULES);
            f.seed(1234567);
            int first = f.spoken(10, 0);
            Cases.due("count(7)", f.count(X), 1234567);
            Cases.due("spoken(10, 0) again", f.spoken(10, 0), first);
        });
        Cases.add(37, "x as it was, given up", () -> {
            PackedForest f = Cases.of("S=S");
            f.seed(77);
            Cases.due("spoken(1, -1)", f.spoken(1, -1), -2);
            Cases.due("count(7)", f.count(X), 77);
        });
        Cases.add(37, "SMALLS beside and between stay", () -> {
            PackedForest f = Cases.of("S=aAbB;A=cd;B=");
            Cases.due("spoken(1, -1)", f.spoken(1, -1), 4);
            int[] row = {0, 2, 3, 1};
            for (int k = 0; k < 4; k++) {
                Cases.due("spoken(1, " + k + ")", f.spoken(1, k), row[k]);
            }
        });
        Cases.add(37, "BANS and FILTERS don't matter", () -> {
            PackedForest f = Cases.of("S=A:2;A=a:1");
            f.ban(0, 0, 1);
            Cases.due("spoken(1, 0)", f.spoken(1, 0), 0);
        });
    }

    private static void spokenAnswers() {
        Cases.add(37, "t 1 to 10", () -> {
            PackedForest f = Cases.of("S=a");
            for (int t = 1; t <= 10; t++) {
                Cases.due("spoken(" + t + ", -1)", f.spoken(t, -1), 1);
            }
            for (int t : new int[] {0, -1, 11, 12, Cases.MIN, Cases.MAX}) {
                Cases.due("spoken(" + t + ", -1)", f.spoken(t, -1), -3);
                Cases.due("spoken(" + t + ", 0)", f.spoken(t, 0), -3);
            }
        });
        Cases.add(37, "what NONE: how many SMALLS; what 0 to 23; -3 without these", () -> {
            PackedForest f = Cases.of("S=az");
            Cases.due("spoken(1, -1)", f.spoken(1, -1), 2);
            Cases.due("spoken(1, 0)", f.spoken(1, 0), 0);
            Cases.due("spoken(1, 1)", f.spoken(1, 1), 25);
            for (int what = 2; what <= 23; what++) {
                Cases.due("spoken(1, " + what + ")", f.spoken(1, what), -1);
            }
            for (int what : new int[] {-2, -3, 24, 25, Cases.MIN, Cases.MAX}) {
                Cases.due("spoken(1, " + what + ")", f.spoken(1, what), -3);
            }
        });
        Cases.add(37, "the empty row", () -> {
            PackedForest f = Cases.of("S=");
            Cases.due("spoken(1, -1)", f.spoken(1, -1), 0);
            Cases.due("spoken(1, 0)", f.spoken(1, 0), -1);
            Cases.due("spoken(1, 23)", f.spoken(1, 23), -1);
        });
        Cases.add(37, "-2, whatever of it is asked; -3 ahead of it", () -> {
            PackedForest f = Cases.of("S=S");
            for (int what = -1; what <= 23; what++) {
                Cases.due("spoken(1, " + what + ")", f.spoken(1, what), -2);
            }
            Cases.due("spoken(1, 24)", f.spoken(1, 24), -3);
            Cases.due("spoken(1, -2)", f.spoken(1, -2), -3);
            Cases.due("spoken(11, 0)", f.spoken(11, 0), -3);
        });
        Cases.add(37, "-3 without a GRAMMAR", () -> {
            PackedForest f = new PackedForest();
            Cases.due("spoken(1, -1)", f.spoken(1, -1), -3);
            Cases.due("spoken(1, 0)", f.spoken(1, 0), -3);
            Cases.due("spoken(0, 0)", f.spoken(0, 0), -3);
        });
    }

    private static void spokenDue(String sentence, String grammar, int want, int... struck) {
        Cases.add(37, sentence + ": " + grammar, () -> {
            PackedForest f = Cases.of(grammar);
            for (int rule : struck) {
                f.strike(rule);
            }
            Cases.due("spoken(1, -1)", f.spoken(1, -1), want);
        });
    }

    private static void givenUp() {
        spokenDue("24 SYMBOLS are not more than 24", "S=AAAA;A=BBaa;B=cc", 24);
        spokenDue("25 are", "S=AAAB;A=CCaa;C=cc;B=CCCa", -2);
        spokenDue("24 SYMBOLS, CAPITALS among them", "S=BBBD;B=CCa;C=aaa;D=EEE;E=", 21);
        spokenDue("25 are, though some would be EMPTY", "S=BBBD;B=CCa;C=aaa;D=EEEE;E=", -2);
        spokenDue("no RULE, of the START", "S=a", -2, 0);
        spokenDue("no RULE, of another one", "S=aA;A=b", -2, 1);
        spokenDue("no RULE of one that is not in the row", "S=a;A=b", 1, 1);
        Cases.add(37, "25 are, though there is a shorter RULE", () -> {
            // D is replaced by the 11th draw, which is odd; the 12th, which is even, is none of this row.
            for (int x : new int[] {0, 3, 5, 8, 10}) {
                PackedForest f = Cases.of("S=BBBD;B=CCa;C=aaa;D=;D=EEEE;E=");
                f.seed(x);
                Cases.due("spoken(1, -1) of x " + x, f.spoken(1, -1), -2);
                Cases.tell(f, "S=BBBD;B=CCa;C=aaa;D=EEEE;D=;E=");
                Cases.due("spoken(1, -1) of x " + x + ", the other way round", f.spoken(1, -1), 21);
            }
        });
        Cases.add(37, "the 24th SMALL", () -> {
            PackedForest f = Cases.of("S=AAAA;A=BBay;B=cc");
            Cases.due("spoken(1, 23)", f.spoken(1, 23), 24);
            Cases.due("spoken(1, 22)", f.spoken(1, 22), 0);
        });
        Cases.add(37, "some of t given up, the last one counts", () -> {
            // S=a by an even draw. The fourth is given up behind 30 draws, and the fifth goes on with the next.
            PackedForest f = Cases.of("S=a;S=T;T=T");
            int[] wants = {1, 1, 1, -2, 1, -2, -2, 1, 1, -2};
            for (int t = 1; t <= 10; t++) {
                Cases.due("spoken(" + t + ", -1)", f.spoken(t, -1), wants[t - 1]);
            }
        });
    }

    private static void replaced() {
        spokenDue("one is replaced", "S=a", 1);
        spokenDue("30 were replaced, and there is none any more", "S=AAAB;A=CCDD;D=C;B=CDDD;C=a", 16);
        spokenDue("30 were replaced, and there is one yet", "S=AAAB;A=CCDD;D=C;B=DDDD;C=a", -2);
        spokenDue("29 were replaced", "S=AAAB;A=CCDD;D=C;B=CCDD;C=a", 16);
        spokenDue("without an end", "S=S", -2);
        spokenDue("without an end, EMPTY ones beside it", "S=AS;A=", -2);
    }

    // ---- 38

    private static void count() {
        Cases.add(38, "what 0 to 8", () -> {
            PackedForest f = Cases.of("B=Bb;B=;S=a", "abc");
            f.strike(2);
            f.ban(0, 0, 1);
            f.filter(1);
            f.seed(123);
            f.feed(0, 0, 0, 0, 0);
            Cases.counts(f, 3, A + 1, 3, 4, 1, 5, 6, 123, 20);
        });
        Cases.add(38, "NONE for others", () -> {
            for (PackedForest f : new PackedForest[] {new PackedForest(), Cases.of("S=a", "a")}) {
                for (int what : Cases.outside(8)) {
                    Cases.due("count(" + what + ")", f.count(what), -1);
                }
            }
        });
        Cases.add(38, "the START (NONE without a GRAMMAR)", () -> {
            Cases.due("count(1)", new PackedForest().count(1), -1);
            Cases.due("count(1)", Cases.of("A=").count(1), A);
            Cases.due("count(1)", Cases.of("Z=").count(1), A + 25);
        });
        Cases.add(38, "all as many as there can be", () -> {
            PackedForest f = Cases.of("S=SSSS;" + "S=a;".repeat(10) + "S=z", "abcdefghijkl");
            for (int k = 0; k < 8; k++) {
                f.ban(0, k % 4, k / 4);
            }
            for (int rule = 0; rule < 12; rule++) {
                f.strike(rule);
            }
            f.seed(Cases.MAX);
            for (int k = 0; k < 20; k++) {
                f.feed(0, 0, 0, 0, 0);
            }
            Cases.counts(f, 12, S, 12, 4095, 8, 7, 20, Cases.MAX, 400);
        });
        Cases.add(38, "bytes of the TAPE, without a GRAMMAR, too", () -> {
            PackedForest f = new PackedForest();
            f.feed(0, 0, 0, 0, 0);
            f.end(13);
            Cases.due("count(8)", f.count(8), 13);
        });
        Cases.add(38, "a RULE that is STRUCK is counted among the RULES", () -> {
            PackedForest f = Cases.of("S=a;S=b");
            f.strike(0);
            Cases.due("count(0)", f.count(0), 2);
            Cases.due("count(3)", f.count(3), 1);
        });
    }

    // ---- 39 and 40

    private static void image() {
        Cases.add(39, "IMAGES 0 to 3: how many SMALLS the TEXT has", () -> {
            PackedForest f = Cases.of("S=a");
            for (int k = 0; k < 4; k++) {
                Cases.due("image(" + k + ")", f.image(k), k);
                f.read(k);
            }
            for (int k = 3; k >= 0; k--) {
                Cases.due("back(" + k + ")", f.back(k), k);
                Cases.due("count(2)", f.count(2), k);
            }
        });
        Cases.add(39, "of twelve SMALLS", () -> {
            PackedForest f = Cases.of("S=a", "abcdefghijkl");
            Cases.due("image(0)", f.image(0), 12);
            f.drop();
            f.change(0, 25);
            Cases.due("back(0)", f.back(0), 12);
            for (int place = 0; place < 12; place++) {
                Cases.due("letter(" + place + ")", f.letter(place), place);
            }
        });
        Cases.add(39, "NONE without it", () -> {
            PackedForest f = Cases.of("S=a", "a");
            for (int k : Cases.outside(3)) {
                Cases.due("image(" + k + ")", f.image(k), -1);
            }
            for (int k = 0; k < 4; k++) {
                Cases.due("back(" + k + "), not made by these", f.back(k), -1);
            }
        });
        Cases.add(39, "without a GRAMMAR", () -> {
            PackedForest f = new PackedForest();
            Cases.due("image(0)", f.image(0), 0);
            Cases.tell(f, "S=a");
            Cases.due("back(0)", f.back(0), 0);
            Cases.counts(f, 0, -1, 0, 0, 0, 7, 0, 0, 0);
            Cases.due("states()", f.states(), -1);
            Cases.due("read(0)", f.read(0), -1);
        });
        Cases.add(39, "made anew in place of the one there was", () -> {
            PackedForest f = Cases.of("S=a", "a");
            f.image(2);
            f.read(1);
            Cases.due("image(2)", f.image(2), 2);
            f.drop();
            f.drop();
            Cases.due("back(2)", f.back(2), 2);
            Cases.due("count(6)", f.count(6), 2);
        });
        Cases.add(39, "nothing changes", () -> {
            PackedForest f = Cases.of("S=SS;S=a", "aa");
            f.image(1);
            Cases.counts(f, 2, S, 2, 0, 0, 7, 2, 0, 0);
        });
    }

    private static void back() {
        Cases.add(40, "NONE, and nothing happens, if it was never made", () -> {
            PackedForest f = Cases.of("S=a", "ab");
            f.image(1);
            f.read(2);
            for (int k : new int[] {0, 2, 3}) {
                Cases.due("back(" + k + ")", f.back(k), -1);
                Cases.due("count(2)", f.count(2), 3);
            }
            Cases.due("back(1)", f.back(1), 2);
        });
        Cases.add(40, "NONE, and nothing happens, without it", () -> {
            PackedForest f = Cases.of("S=a", "ab");
            f.image(0);
            f.image(3);
            f.read(2);
            for (int k : Cases.outside(3)) {
                Cases.due("back(" + k + ")", f.back(k), -1);
            }
            Cases.due("count(2)", f.count(2), 3);
        });
        Cases.add(40, "all but the TAPE", () -> {
            PackedForest f = Cases.of("S=a", "a");
            f.feed(0x413D6120, 0x20202020, 0x20202020, 0x20202020, 0x20202020);
            f.image(0);
            f.end(3);
            f.back(0);
            Cases.due("count(8)", f.count(8), 3);
            f.end(0);
            f.feed(0x423D6220, 0x20202020, 0x20202020, 0x20202020, 0x20202020);
            f.back(0);
            Cases.due("count(8)", f.count(8), 20);
            Cases.due("grammar()", f.grammar(), 1);
            Cases.due("count(1)", f.count(1), A + 1);
        });
        Cases.add(40, "as often as one likes", () -> {
            PackedForest f = Cases.of("S=a", "ab");
            f.image(0);
            for (int k = 0; k < 3; k++) {
                f.drop();
                f.read(7);
                Cases.due("back(0)", f.back(0), 2);
                Cases.due("letter(1)", f.letter(1), 1);
                Cases.due("count(6)", f.count(6), 2);
            }
        });
        Cases.add(40, "it is no ACT", () -> {
            PackedForest f = Cases.of("S=a", "a");
            f.image(0);
            f.read(1);
            f.back(0);
            Cases.due("count(6)", f.count(6), 1);
            Cases.due("undo()", f.undo(), 0);
            Cases.due("count(2)", f.count(2), 0);
        });
        Cases.add(40, "what is done behind it does not change the IMAGE", () -> {
            PackedForest f = Cases.of("S=SS:2;S=a", "aa");
            f.ban(0, 0, 0);
            f.image(0);
            f.back(0);
            f.ban(0, 1, 0);
            f.strike(1);
            f.filter(2);
            f.change(0, 5);
            f.seed(3);
            Cases.tell(f, "A=b:9!");
            f.back(0);
            Cases.counts(f, 2, S, 2, 0, 1, 7, 3, 0, 0);
            Cases.due("letter(0)", f.letter(0), 0);
            Cases.due("rule(0, 2)", f.rule(0, 2), 2);
            Cases.due("rule(0, 3)", f.rule(0, 3), 0);
            Cases.due("rule(1, 1)", f.rule(1, 1), 1);
            Cases.due("undo() of the BAN", f.undo(), 2);
            Cases.due("count(4)", f.count(4), 0);
        });
        Cases.add(40, "the other IMAGES stay", () -> {
            PackedForest f = Cases.of("S=a");
            f.image(0);
            f.read(1);
            f.image(1);
            f.back(0);
            Cases.due("back(1)", f.back(1), 1);
            Cases.due("back(0)", f.back(0), 0);
        });
    }

    private static PackedForest full() {
        PackedForest f = Cases.of("S=SS:2<;S=a;S=b", "aba");
        f.strike(2);
        f.ban(0, 0, 0);
        f.filter(0);
        f.seed(42);
        return f;
    }

    private static void backAsItWas() {
        String[] parts = {
            "the GRAMMAR", "the START", "the TEXT", "what is STRUCK", "BANS", "FILTERS", "what can be UNDONE", "x",
        };
        int[] wants = {3, S, 3, 4, 1, 6, 6, 42};
        for (int what = 0; what < wants.length; what++) {
            int one = what;
            Cases.add(40, "it is as it was: " + parts[what], () -> {
                PackedForest f = full();
                f.image(3);
                f.undo();
                f.undo();
                f.undo();
                f.drop();
                f.seed(0);
                Cases.tell(f, "A=a;A=AA");
                Cases.due("back(3)", f.back(3), 3);
                Cases.due("count(" + one + ")", f.count(one), wants[one]);
            });
        }
        Cases.add(40, "it is as it was: all ACTS can be UNDONE, to the first", () -> {
            PackedForest f = full();
            f.image(0);
            for (int k = 0; k < 30; k++) {
                f.filter(1);
            }
            f.back(0);
            for (int k = 5; k >= 0; k--) {
                Cases.due("undo()", f.undo(), k);
            }
            Cases.counts(f, 3, S, 0, 0, 0, 7, 0, 42, 0);
        });
        Cases.add(40, "it is as it was: none can be UNDONE", () -> {
            PackedForest f = Cases.of("S=a");
            f.image(0);
            f.read(0);
            f.back(0);
            Cases.due("undo()", f.undo(), -2);
        });
        Cases.add(40, "what was asked before does not show", () -> {
            PackedForest f = full();
            f.image(0);
            String there = answers(f);
            Cases.tell(f, "S=aS;S=A;A=");
            Cases.read(f, "aaaa");
            String other = answers(f);
            f.image(1);
            f.back(0);
            Cases.due("answers as they were", answers(f).equals(there) ? 1 : 0, 1);
            f.back(1);
            Cases.due("answers of the other one", answers(f).equals(other) ? 1 : 0, 1);
        });
    }

    private static String answers(PackedForest f) {
        int n = f.count(2);
        StringBuilder all = new StringBuilder();
        for (int k = -1; k < 9; k++) {
            int[] some = {
                f.count(k), f.facts(k), f.rule(0, k), f.symbol(0, k), f.goes(0, k), f.points(k, 0), f.done(k), f.letter(k),
                f.alive(k, -1), f.links(k, -1), f.expects(k), f.forest(k), f.tree(k, 0), f.spoken(1, k), f.piece(0, 0, k),
                f.ways(0, 0, k), f.derives(S, 0, k), f.trees(S, 0, k),
            };
            for (int one : some) {
                all.append(one).append(' ');
            }
        }
        int[] once = {
            f.firsts(S), f.follows(S), f.shortest(S), f.states(), f.clashes(), f.smallest(), f.whole(), f.mend(),
            f.trees(S, 0, n), f.tree(0, 2),
        };
        for (int one : once) {
            all.append(one).append(' ');
        }
        return all.toString();
    }

    // ---- what is asked

    private static void asking() {
        Cases.add(38, "by what is asked nothing changes", () -> {
            PackedForest f = full();
            String first = answers(f);
            Cases.due("the same answers", answers(f).equals(first) ? 1 : 0, 1);
            Cases.counts(f, 3, S, 3, 4, 1, 6, 6, 42, 0);
        });
        Cases.add(38, "by what is refused nothing changes", () -> {
            for (int odd : new int[] {-1, 12, 13, 52, 400, Cases.MIN, Cases.MAX}) {
                PackedForest f = full();
                String first = answers(f);
                refused(f, odd);
                Cases.due("the same answers behind " + odd, answers(f).equals(first) ? 1 : 0, 1);
                Cases.counts(f, 3, S, 3, 4, 1, 6, 6, 42, 0);
            }
        });
        Cases.add(38, "512 calls", () -> {
            PackedForest f = Cases.of("S=SS;S=a");
            for (int k = 0; k < 250; k++) {
                f.read(0);
                f.filter(k % 3);
            }
            Cases.counts(f, 2, S, 12, 0, 0, 1, 20, 0, 0);
        });
    }

    /** Each call with a number that is none of a rule, a place, a state and so on. */
    private static void refused(PackedForest f, int odd) {
        int[] all = {
            f.end(odd == -1 ? -1 : odd == Cases.MIN ? odd : 401), f.back(odd), f.image(odd), f.seed(odd < 0 ? odd : -1), f.filter(odd),
            f.strike(odd), f.ban(odd, 0, 0), f.ban(0, odd, 0), f.ban(0, 0, odd), f.change(odd, 1), f.change(0, odd == 12 || odd == 13 ? 26 : odd),
            f.read(odd == 12 || odd == 13 ? 26 : odd), f.derives(S, odd, 1), f.trees(S, 0, odd), f.piece(odd, 0, 0), f.ways(odd, 0, 0),
            f.tree(0, odd), f.forest(odd), f.letter(odd), f.expects(odd), f.alive(odd, 0), f.links(odd, 0), f.count(odd), f.facts(odd),
            f.goes(0, odd), f.points(0, odd), f.done(odd), f.rule(0, odd), f.symbol(odd, 0), f.firsts(odd), f.follows(odd), f.shortest(odd),
        };
        for (int k = 0; k < all.length; k++) {
            boolean told = odd == 12 || odd == 13;
            // The state 0 goes nowhere by the smalls 12 and 13.
            Cases.due("call " + k + " with " + odd, all[k], told && k == 24 ? -2 : -1);
        }
    }
}
