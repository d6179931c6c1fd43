/** Boundary cases of promises 1 to 6: a new object, the tape, the grammar and its faults, rules. */
final class GrammarCases {
    private static final int A = 26;
    private static final int S = 44;
    private static final int Z = 51;
    private static final String STATES_90 = "S=aS;A=bB;B=baC;C=babC;A=bbbB;C=aA;B=abbC;C=bbS;C=bC;S=bbbB;B=bbbB;S=abb";
    private static final String STATES_91 = "S=aA;A=aaB;B=abA;S=aS;S=abS;B=baaA;B=abbS;B=aB;B=bbA;A=bbB;A=aabS;A=baaB";

    private GrammarCases() { }

    static void add() {
        newObject();
        feed();
        end();
        grammar();
        grammarAnew();
        allStays();
        rulesAndSymbols();
        faultsOfBytes();
        faultsOfRanks();
        faultsOfSymbolsAndRules();
        faultsOfCapitals();
        faultsOfStates();
        faultsInOrder();
    }

    // ---- 1

    private static void newObject() {
        Cases.add(1, "No GRAMMAR: counts", () ->
            Cases.counts(new PackedForest(), 0, -1, 0, 0, 0, 7, 0, 0, 0));
        Cases.add(1, "NONE = -1", () -> Cases.due("NONE", PackedForest.NONE, -1));
        Cases.add(1, "no IMAGE is made yet", () -> {
            for (int k = 0; k < 4; k++) {
                Cases.due("back(" + k + ")", new PackedForest().back(k), -1);
            }
        });
        Cases.add(1, "two objects have nothing in common", () -> {
            PackedForest one = Cases.of("S=a;S=b", "ab");
            PackedForest other = new PackedForest();
            Cases.counts(other, 0, -1, 0, 0, 0, 7, 0, 0, 0);
            Cases.tell(other, "A=A");
            Cases.counts(one, 2, S, 2, 0, 0, 7, 2, 0, 0);
        });
    }

    // ---- 2

    private static void feed() {
        Cases.add(2, "twenty bytes, of each number the highest first", () -> {
            PackedForest f = new PackedForest();
            f.feed(0x5A3D6162, 0x63643A35, 0x3E3B413D, 0x7A797877, 0x3A373C3B);
            f.end(19);
            Cases.due("grammar() of Z=abcd:5>;A=zyxw:7<", f.grammar(), 2);
            int[][] symbols = {{0, 1, 2, 3}, {25, 24, 23, 22}};
            for (int r = 0; r < 2; r++) {
                for (int k = 0; k < 4; k++) {
                    Cases.due("symbol(" + r + ", " + k + ")", f.symbol(r, k), symbols[r][k]);
                }
            }
            Cases.due("rule(0, 2)", f.rule(0, 2), 5);
            Cases.due("rule(1, 3)", f.rule(1, 3), 1);
        });
        Cases.add(2, "come behind the TAPE", () -> {
            PackedForest f = new PackedForest();
            f.feed(0x413D6120, 0x20202020, 0x20202020, 0x20202020, 0x20202020);
            f.feed(0x62636400, 0, 0, 0, 0);
            f.end(23);
            Cases.due("grammar()", f.grammar(), 1);
            Cases.due("symbol(0, 3)", f.symbol(0, 3), 3);
        });
        Cases.add(2, "bytes above 127 are no others", () -> {
            for (int number : new int[] {0xC13D6120, 0x41BD6120, 0x413DE120}) {
                PackedForest f = new PackedForest();
                f.feed(number, 0x20202020, 0x20202020, 0x20202020, 0x20202020);
                int place = number == 0xC13D6120 ? 0 : number == 0x41BD6120 ? 1 : 2;
                Cases.due("grammar()", f.grammar(), Cases.fault(place, 0));
            }
        });
        Cases.add(2, "how many it has", () -> {
            PackedForest f = new PackedForest();
            Cases.due("first", f.feed(0, 0, 0, 0, 0), 20);
            Cases.due("second", f.feed(Cases.MIN, Cases.MAX, -1, 1, 0), 40);
            f.end(33);
            Cases.due("behind 33", f.feed(0, 0, 0, 0, 0), 53);
            f.end(0);
            Cases.due("behind none", f.feed(0, 0, 0, 0, 0), 20);
        });
        Cases.add(2, "400 are not more than 400", () -> {
            PackedForest f = fed(380);
            Cases.due("feed to 400", f.feed(0, 0, 0, 0, 0), 400);
            Cases.due("count(8)", f.count(8), 400);
        });
        Cases.add(2, "NONE, if it would have 401", () -> {
            PackedForest f = fed(400);
            f.end(381);
            Cases.due("feed to 401", f.feed(0, 0, 0, 0, 0), -1);
            Cases.due("count(8)", f.count(8), 381);
        });
        Cases.add(2, "NONE, if it is full", () ->
            Cases.due("feed to 420", fed(400).feed(0, 0, 0, 0, 0), -1));
        Cases.add(2, "and none comes", () -> {
            PackedForest f = fed(380);
            f.feed(0x20202020, 0x20202020, 0x20202020, 0x413D6162, 0x63644142);
            f.end(398);
            f.feed(0x45464748, 0, 0, 0, 0);
            f.feed(0x45464748, 0, 0, 0, 0);
            Cases.due("count(8)", f.count(8), 398);
            Cases.due("end(399)", f.end(399), -1);
            Cases.due("grammar()", f.grammar(), 1);
            Cases.due("rule(0, 1)", f.rule(0, 1), 4);
        });
        Cases.add(2, "a GRAMMAR is not needed, and the one there is stays", () -> {
            PackedForest f = Cases.of("S=a", "a");
            f.feed(0x413D6120, 0x20202020, 0x20202020, 0x20202020, 0x20202020);
            Cases.counts(f, 1, S, 1, 0, 0, 7, 1, 0, 20);
        });
    }

    private static PackedForest fed(int bytes) {
        PackedForest f = new PackedForest();
        for (int k = 0; k < bytes; k += 20) {
            f.feed(0x20202020, 0x20202020, 0x20202020, 0x20202020, 0x20202020);
        }
        return f;
    }

    // ---- 3

    private static void end() {
        Cases.add(3, "its first n bytes alone: n", () -> {
            PackedForest f = new PackedForest();
            f.feed(0x413D6162, 0x63646566, 0, 0, 0);
            Cases.due("end(5)", f.end(5), 5);
            Cases.due("count(8)", f.count(8), 5);
            Cases.due("grammar()", f.grammar(), 1);
            Cases.due("rule(0, 1)", f.rule(0, 1), 3);
        });
        Cases.add(3, "as many as it has", () -> {
            Cases.due("end(20) of 20", fed(20).end(20), 20);
            Cases.due("end(400) of 400", fed(400).end(400), 400);
        });
        Cases.add(3, "none of them: 0", () -> {
            PackedForest f = fed(20);
            Cases.due("end(0) of 20", f.end(0), 0);
            Cases.due("count(8)", f.count(8), 0);
            Cases.due("end(0) of none", f.end(0), 0);
        });
        Cases.add(3, "NONE, and nothing happens, if it has not so many", () -> {
            PackedForest f = fed(20);
            for (int n : new int[] {21, 400, 401, Cases.MAX}) {
                Cases.due("end(" + n + ") of 20", f.end(n), -1);
                Cases.due("count(8)", f.count(8), 20);
            }
            Cases.due("end(401) of 400", fed(400).end(401), -1);
            Cases.due("end(1) of none", new PackedForest().end(1), -1);
        });
        Cases.add(3, "NONE, and nothing happens, if n is below 0", () -> {
            PackedForest f = fed(20);
            for (int n : new int[] {-1, -20, Cases.MIN}) {
                Cases.due("end(" + n + ")", f.end(n), -1);
                Cases.due("count(8)", f.count(8), 20);
            }
        });
        Cases.add(3, "bytes behind it are no more", () -> {
            PackedForest f = fed(40);
            f.end(7);
            Cases.due("end(8)", f.end(8), -1);
            Cases.due("end(7)", f.end(7), 7);
        });
    }

    // ---- 4

    private static void grammar() {
        Cases.add(4, "at most 400 bytes", () -> {
            PackedForest f = fed(380);
            f.feed(0x20202020, 0x20202020, 0x20202020, 0x413D6162, 0x3A313C20);
            Cases.due("grammar() of 400 bytes", f.grammar(), 1);
            Cases.due("rule(0, 3)", f.rule(0, 3), 1);
        });
        Cases.add(4, "one RULE", () -> Cases.due("A=", Cases.tell(new PackedForest(), "A="), 1));
        Cases.add(4, "12 RULES", () -> {
            PackedForest f = Cases.of("S=a;".repeat(11) + "S=z:9!");
            Cases.due("count(0)", f.count(0), 12);
            Cases.due("rule(11, 2)", f.rule(11, 2), 9);
        });
        Cases.add(4, "no SYMBOL, and 4 of them", () -> {
            PackedForest f = Cases.of("S=;S=SSSS;S=abcd");
            Cases.due("rule(0, 1)", f.rule(0, 1), 0);
            Cases.due("rule(1, 1)", f.rule(1, 1), 4);
            Cases.due("rule(2, 1)", f.rule(2, 1), 4);
        });
        Cases.add(4, "CAPITAL: A to Z; SMALL: a to z", () -> {
            PackedForest f = Cases.of("A=aZz;Z=");
            Cases.due("rule(0, 0)", f.rule(0, 0), A);
            Cases.due("rule(1, 0)", f.rule(1, 0), Z);
            Cases.due("symbol(0, 0)", f.symbol(0, 0), 0);
            Cases.due("symbol(0, 1)", f.symbol(0, 1), Z);
            Cases.due("symbol(0, 2)", f.symbol(0, 2), 25);
        });
        Cases.add(4, "5 unlike CAPITALS on LEFT sides, each as often as one likes", () -> {
            PackedForest f = Cases.of("A=;B=;C=;D=;E=;A=;B=;C=;D=;E=;A=E;Z=".replace("Z", "E"));
            Cases.due("count(0)", f.count(0), 12);
            Cases.due("facts(5)", f.facts(5), 31);
        });
        Cases.add(4, "RANK: one digit 1 to 9 (0 without)", () -> {
            PackedForest f = Cases.of("S=:1;S=:9;S=");
            Cases.due("rule(0, 2)", f.rule(0, 2), 1);
            Cases.due("rule(1, 2)", f.rule(1, 2), 9);
            Cases.due("rule(2, 2)", f.rule(2, 2), 0);
        });
        Cases.add(4, "SIDE: one of < > ! (none without)", () -> {
            PackedForest f = Cases.of("S=:1<;S=:1>;S=:1!;S=:1;S=");
            int[] sides = {1, 2, 3, 0, 0};
            for (int r = 0; r < sides.length; r++) {
                Cases.due("rule(" + r + ", 3)", f.rule(r, 3), sides[r]);
            }
        });
        Cases.add(4, "blanks stand between as one likes", () -> {
            PackedForest f = Cases.of("   S   =   a   S   :   4   <   ;   S   =   ;   S=b   ");
            Cases.due("rule(0, 1)", f.rule(0, 1), 2);
            Cases.due("rule(0, 2)", f.rule(0, 2), 4);
            Cases.due("rule(0, 3)", f.rule(0, 3), 1);
            Cases.due("rule(1, 1)", f.rule(1, 1), 0);
            Cases.due("rule(2, 1)", f.rule(2, 1), 1);
        });
        Cases.add(4, "the CAPITAL on the LEFT of RULE 0 is the START", () -> {
            Cases.due("count(1)", Cases.of("B=A;A=").count(1), 27);
            Cases.due("count(1)", Cases.of("Z=;A=").count(1), Z);
        });
        Cases.add(4, "a CAPITAL on a RIGHT side ahead of its own RULE", () ->
            Cases.due("S=T;T=", Cases.tell(new PackedForest(), "S=T;T="), 2));
    }

    private static PackedForest full() {
        PackedForest f = Cases.of("S=SS:2<;S=a;S=b", "aba");
        f.strike(2);
        f.ban(0, 0, 0);
        f.filter(1);
        f.seed(77);
        return f;
    }

    private static void grammarAnew() {
        Cases.add(4, "the TAPE is empty then", () -> {
            PackedForest f = Cases.of("S=a");
            Cases.due("count(8)", f.count(8), 0);
            Cases.due("end(1)", f.end(1), -1);
            Cases.due("feed", f.feed(0, 0, 0, 0, 0), 20);
        });
        Cases.add(4, "the TAPE is empty with a FAULT, too", () -> {
            PackedForest f = new PackedForest();
            Cases.tell(f, "S");
            Cases.due("count(8)", f.count(8), 0);
            Cases.due("grammar() once more", f.grammar(), Cases.fault(0, 0));
        });
        Cases.add(4, "in place of the one there was", () -> {
            PackedForest f = full();
            Cases.due("A=b;A=bA:3", Cases.tell(f, "A=b;A=bA:3"), 2);
            Cases.due("rule(0, 0)", f.rule(0, 0), A);
            Cases.due("rule(0, 2): no RANK is left", f.rule(0, 2), 0);
            Cases.due("rule(0, 3): no SIDE is left", f.rule(0, 3), 0);
            Cases.due("rule(2, 0)", f.rule(2, 0), -1);
            Cases.due("firsts(44)", f.firsts(S), -1);
            Cases.due("facts(5)", f.facts(5), 1);
            Cases.due("states()", f.states(), 3);
        });
        String[] anew = {
            "how many RULES", "the START", "the TEXT is empty", "no RULE STRUCK", "no BANS", "all FILTERS on",
            "nothing to be UNDONE", "x stays",
        };
        int[] wants = {1, A, 0, 0, 0, 7, 0, 77};
        for (int what = 0; what < wants.length; what++) {
            int one = what;
            Cases.add(4, "a new GRAMMAR: " + anew[what], () -> {
                PackedForest f = full();
                Cases.tell(f, "A=");
                Cases.due("count(" + one + ")", f.count(one), wants[one]);
            });
        }
        Cases.add(4, "a new GRAMMAR: undo() does nothing", () -> {
            PackedForest f = full();
            Cases.tell(f, "A=");
            Cases.due("undo()", f.undo(), -2);
        });
        Cases.add(4, "the same GRAMMAR once more: all is new, too", () -> {
            PackedForest f = full();
            Cases.tell(f, "S=SS:2<;S=a;S=b");
            Cases.counts(f, 3, S, 0, 0, 0, 7, 0, 77, 0);
            Cases.read(f, "aba");
            Cases.due("trees(44, 0, 3)", f.trees(S, 0, 3), 1);
            Cases.due("derives(44, 1, 2)", f.derives(S, 1, 2), 1);
        });
        Cases.add(4, "IMAGES are no part of it", () -> {
            PackedForest f = full();
            f.image(2);
            Cases.tell(f, "A=");
            Cases.due("back(2)", f.back(2), 3);
            Cases.counts(f, 3, S, 3, 4, 1, 5, 6, 77, 0);
        });
    }

    private static void allStays() {
        String[] faults = {"", "S=:", "S=T", "S=abcde", "S=;".repeat(12) + "S=", STATES_91};
        for (int kind = 0; kind < faults.length; kind++) {
            String text = faults[kind];
            Cases.add(4, "-2 - its FAULT, and all stays: " + text, () -> {
                PackedForest f = full();
                f.image(1);
                Cases.due("below -2", Cases.tell(f, text) < -2 ? 1 : 0, 1);
                Cases.counts(f, 3, S, 3, 4, 1, 5, 6, 77, 0);
                Cases.due("rule(0, 2)", f.rule(0, 2), 2);
                Cases.due("letter(1)", f.letter(1), 1);
                Cases.due("states()", f.states(), 4);
                Cases.due("trees(44, 0, 1)", f.trees(S, 0, 1), 1);
                Cases.due("trees(44, 0, 3)", f.trees(S, 0, 3), 0);
                Cases.due("undo()", f.undo(), 5);
                Cases.due("back(1)", f.back(1), 3);
            });
        }
        Cases.add(4, "a FAULT where there was no GRAMMAR: there is none yet", () -> {
            for (String text : faults) {
                PackedForest f = new PackedForest();
                Cases.tell(f, text);
                Cases.counts(f, 0, -1, 0, 0, 0, 7, 0, 0, 0);
                Cases.due("states()", f.states(), -1);
                Cases.due("read(0)", f.read(0), -1);
            }
        });
    }

    // ---- 5 and 6

    private static void rulesAndSymbols() {
        Cases.add(5, "what 0 to 4", () -> {
            PackedForest f = Cases.of("Z=abZ:9!;A=");
            int[][] wants = {{Z, 3, 9, 3, 0}, {A, 0, 0, 0, 0}};
            for (int r = 0; r < 2; r++) {
                for (int what = 0; what < 5; what++) {
                    Cases.due("rule(" + r + ", " + what + ")", f.rule(r, what), wants[r][what]);
                }
            }
        });
        Cases.add(5, "1 if it is STRUCK, else 0", () -> {
            PackedForest f = Cases.of("S=a;S=b;S=c");
            f.strike(1);
            Cases.due("rule(0, 4)", f.rule(0, 4), 0);
            Cases.due("rule(1, 4)", f.rule(1, 4), 1);
            Cases.due("rule(2, 4)", f.rule(2, 4), 0);
            f.strike(1);
            Cases.due("rule(1, 4), struck twice", f.rule(1, 4), 0);
        });
        Cases.add(5, "a STRUCK RULE has its number, LEFT, SYMBOLS, RANK and SIDE", () -> {
            PackedForest f = Cases.of("S=aS:3>;S=b");
            f.strike(0);
            int[] wants = {S, 2, 3, 2, 1};
            for (int what = 0; what < 5; what++) {
                Cases.due("rule(0, " + what + ")", f.rule(0, what), wants[what]);
            }
            Cases.due("rule(1, 0)", f.rule(1, 0), S);
        });
        Cases.add(5, "NONE without that RULE", () -> {
            PackedForest f = Cases.of("S=a;S=b");
            for (int rule : Cases.outside(1)) {
                for (int what = 0; what < 5; what++) {
                    Cases.due("rule(" + rule + ", " + what + ")", f.rule(rule, what), -1);
                }
            }
            PackedForest all = Cases.of("S=a;".repeat(11) + "S=a");
            Cases.due("rule(11, 1)", all.rule(11, 1), 1);
            Cases.due("rule(12, 1)", all.rule(12, 1), -1);
        });
        Cases.add(5, "NONE for other whats", () -> {
            PackedForest f = Cases.of("S=a");
            for (int what : Cases.outside(4)) {
                Cases.due("rule(0, " + what + ")", f.rule(0, what), -1);
            }
        });
        Cases.add(5, "NONE without a GRAMMAR", () -> {
            for (int what = 0; what < 5; what++) {
                Cases.due("rule(0, " + what + ")", new PackedForest().rule(0, what), -1);
            }
        });
        Cases.add(6, "PLACES 0 to 3", () -> {
            PackedForest f = Cases.of("Z=aZzA;A=");
            int[] wants = {0, Z, 25, A};
            for (int place = 0; place < 4; place++) {
                Cases.due("symbol(0, " + place + ")", f.symbol(0, place), wants[place]);
            }
        });
        Cases.add(6, "NONE without that PLACE", () -> {
            PackedForest f = Cases.of("S=abcd;S=ab;S=;S=abcd");
            int[] last = {3, 1, -1};
            for (int r = 0; r < 3; r++) {
                for (int place : Cases.outside(last[r])) {
                    Cases.due("symbol(" + r + ", " + place + ")", f.symbol(r, place), -1);
                }
            }
        });
        Cases.add(6, "NONE without that RULE", () -> {
            PackedForest f = Cases.of("S=a;S=b");
            for (int rule : Cases.outside(1)) {
                Cases.due("symbol(" + rule + ", 0)", f.symbol(rule, 0), -1);
            }
        });
        Cases.add(6, "NONE without a GRAMMAR", () ->
            Cases.due("symbol(0, 0)", new PackedForest().symbol(0, 0), -1));
        Cases.add(6, "of a STRUCK RULE, too", () -> {
            PackedForest f = Cases.of("S=ab");
            f.strike(0);
            Cases.due("symbol(0, 1)", f.symbol(0, 1), 1);
        });
    }

    // ---- the faults of promise 4

    private static void faultDue(String sentence, String text, int place, int kind) {
        Cases.add(4, "FAULT " + kind + ", " + sentence + ": '" + text + "'", () ->
            Cases.due("grammar()", Cases.tell(new PackedForest(), text), Cases.fault(place, kind)));
    }

    private static void faultsOfBytes() {
        faultDue("the end of nothing", "", 0, 0);
        faultDue("the end of blanks alone", "    ", 4, 0);
        faultDue("the end behind a LEFT", "S", 1, 0);
        faultDue("the end behind a LEFT and blanks", "S  ", 3, 0);
        faultDue("the end behind a ;", "S=a;", 4, 0);
        faultDue("the end behind a ; and blanks", "S=a;  ", 6, 0);
        faultDue("the end behind a :, too", "S=a:", 4, 0);
        faultDue("the end behind a : and blanks", "S=a:   ", 7, 0);
        faultDue("the end behind the 12th ;", "S=;".repeat(12), 36, 0);
        faultDue("the end behind 400 bytes", "S=a;" + " ".repeat(396), 400, 0);
        faultDue("the last of 400 bytes", "S=a" + " ".repeat(396) + "#", 399, 0);
        for (String sign : new String[] {"@", "[", "a", "z", "`", "{", "=", ";", ":", "1", "<", "\t", "\n", "\0", "\u00a0", "\u00ff"}) {
            faultDue("no CAPITAL at the LEFT", sign + "=a", 0, 0);
            faultDue("no CAPITAL at the second LEFT", "S=a; " + sign + "=a", 5, 0);
        }
        for (String sign : new String[] {"S", "a", ";", ":", "<", ">", "1", "#", "\t", "\0", "\u00bd"}) {
            faultDue("no = behind the LEFT", "S" + sign + "=a", 1, 0);
        }
        for (String sign : new String[] {"@", "[", "`", "{", "=", "<", ">", "!", "0", "1", "9", "#", "\t", "\n", "\0", "\u00c1", "\u00e1"}) {
            faultDue("no SYMBOL", "S=" + sign, 2, 0);
            faultDue("no SYMBOL behind one", "S=a" + sign, 3, 0);
            faultDue("no SYMBOL behind four", "S=abcd" + sign, 6, 0);
        }
        for (String sign : new String[] {"0", "1", "9", ":", "=", "?", "a", "S", "#", "\t"}) {
            faultDue("no SIDE behind a RANK", "S=a:1" + sign, 5, 0);
        }
        for (String sign : new String[] {"<", ">", "!", "1", ":", "a", "S", "=", "\t"}) {
            faultDue("no ; behind a SIDE", "S=a:1<" + sign, 6, 0);
            faultDue("no ; behind a SIDE and blanks", "S=a:1!  " + sign, 8, 0);
        }
    }

    private static void faultsOfRanks() {
        for (String sign : new String[] {"0", ":", ";", "<", "!", "a", "S", "=", "/", "\t", "\0", "\u00b1"}) {
            faultDue("behind : another byte than 1 to 9", "S=a:" + sign, 4, 1);
            faultDue("behind : and blanks another byte than 1 to 9", "S=a:  " + sign, 6, 1);
        }
        faultDue("behind : of an empty RIGHT side", "S=:0", 3, 1);
        faultDue("behind : of four SYMBOLS", "S=abcd:x", 7, 1);
        faultDue("a 0 ahead of a RANK", "S=a:01", 4, 1);
    }

    private static void faultsOfSymbolsAndRules() {
        faultDue("a fifth SMALL", "S=abcda", 6, 3);
        faultDue("a fifth CAPITAL", "S=SSSSS", 6, 3);
        faultDue("a fifth SYMBOL behind blanks", "S=a b c d  e", 11, 3);
        faultDue("a fifth SYMBOL of the second RULE", "S=abcd;S=abcdz", 13, 3);
        faultDue("a fifth SYMBOL that is on no LEFT side", "S=abcdT", 6, 3);
        faultDue("a 13th RULE", "S=;".repeat(12) + "S=", 36, 4);
        faultDue("a 13th RULE, at its first byte", "S=;".repeat(12) + "   S=", 39, 4);
        faultDue("a 13th RULE, a CAPITAL is enough", "S=;".repeat(12) + "S", 36, 4);
        faultDue("a 13th RULE with a sixth CAPITAL", "A=;B=;C=;D=;E=;A=;A=;A=;A=;A=;A=;A=;F=", 36, 4);
        faultDue("a sixth CAPITAL", "A=;B=;C=;D=;E=;F=", 15, 4);
        faultDue("a sixth CAPITAL behind blanks", "A=;B=;C=;D=;E=;  Z=", 17, 4);
        faultDue("a sixth CAPITAL behind others again", "A=;B=;C=;D=;E=;A=;B=;F=", 21, 4);
        faultDue("a sixth CAPITAL is enough", "A=;B=;C=;D=;E=;F", 15, 4);
        faultDue("a sixth CAPITAL that was on a RIGHT side", "A=F;B=;C=;D=;E=;F=", 16, 4);
        faultDue("a 13th RULE, if its first byte is no CAPITAL", "S=;".repeat(12) + "s=", 36, 0);
        faultDue("a 13th RULE, if its first byte is no CAPITAL but a ;", "S=;".repeat(12) + ";", 36, 0);
        faultDue("a sixth RULE, if its first byte is no CAPITAL", "A=;B=;C=;D=;E=;f=", 15, 0);
    }

    private static void faultsOfCapitals() {
        faultDue("at PLACE 0", "S=T", 2, 2);
        faultDue("at PLACE 3", "S=aaaT", 5, 2);
        faultDue("behind blanks", " S = T ", 5, 2);
        faultDue("the first of two", "S=aUT", 3, 2);
        faultDue("the first of two RULES", "S=T;S=U", 2, 2);
        faultDue("in the last RULE", "S=A;A=B", 6, 2);
        faultDue("one that is on a LEFT side is passed", "S=ABC;A=;B=", 4, 2);
        faultDue("with RANK and SIDE", "S=T:1<", 2, 2);
        faultDue("a sixth CAPITAL on a RIGHT side", "A=;B=;C=;D=;E=F", 14, 2);
    }

    private static void faultsOfStates() {
        Cases.add(4, "90 STATES are not more than 90", () -> {
            PackedForest f = Cases.of(STATES_90);
            Cases.due("states()", f.states(), 90);
        });
        faultDue("91 STATES, behind the last byte", STATES_91, STATES_91.length(), 5);
        faultDue("91 STATES, behind the last byte, a blank", STATES_91 + " ", STATES_91.length() + 1, 5);
        Cases.add(4, "FAULT 5: none of the one before is left in the next", () -> {
            PackedForest f = new PackedForest();
            Cases.tell(f, STATES_91);
            Cases.due("S=", Cases.tell(f, "S="), 1);
            Cases.due("states()", f.states(), 1);
        });
    }

    private static void faultsInOrder() {
        faultDue("the first along the text, ahead of a 1", "S=a#;S=:x", 3, 0);
        faultDue("ahead of a 0", "S=a:x;S=#", 4, 1);
        faultDue("ahead of a 3", "S=:;S=abcde", 3, 1);
        faultDue("ahead of a 4", "S=;".repeat(11) + "S=abcde;S=", 39, 3);
        faultDue("ahead of the end", "S=abcde;", 6, 3);
        faultDue("none of these first: a 0 behind a 2", "S=T;S=#", 6, 0);
        faultDue("none of these first: the end behind a 2", "S=T;", 4, 0);
        faultDue("none of these first: a 1 behind a 2", "S=T:0", 4, 1);
        faultDue("none of these first: a 3 behind a 2", "S=Tbcde", 6, 3);
        faultDue("none of these first: a 4 behind a 2", "S=T;" + "S=;".repeat(11) + "S=", 37, 4);
        String many = STATES_91.replace("A=bbB", "A=bbT");
        faultDue("2 ahead of 5", many, many.indexOf('T'), 2);
        faultDue("a 0 ahead of 5", STATES_91 + "#", STATES_91.length(), 0);
    }
}
