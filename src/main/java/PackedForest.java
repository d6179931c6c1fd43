import java.util.Arrays;

/**
 * A generalised parser for ambiguous languages: a grammar is told as a text, a text of small
 * letters is read, and what the grammar makes of that text can be asked.
 *
 * <p>All that is worked out of the grammar and the text is kept until an act changes what it
 * hangs on; every row is made once, with the object.
 */
public final class PackedForest {
    public static final int NONE = -1;

    private static final int MOST_RULES = 12;
    private static final int MOST_PLACES = 4;
    private static final int MOST_LEFTS = 5;
    private static final int MOST_STATES = 90;
    private static final int MOST_LETTERS = 12;
    private static final int MOST_BANS = 8;
    private static final int MOST_ACTS = 20;
    private static final int MOST_IMAGES = 4;
    private static final int MOST_SPOKEN = 24;
    private static final int MOST_REPLACED = 30;
    private static final int MOST_TIMES = 10;
    private static final int TAPE_BYTES = 400;
    private static final int FEED_BYTES = 20;

    private static final int CAPITALS = 26;
    private static final int FIRST_CAPITAL = 26;
    private static final int SYMBOLS = 52;
    private static final int SLOTS = MOST_RULES * MOST_PLACES;
    private static final int LEVELS = MOST_LETTERS + 1;
    /** All pairs of places m to n of the longest text, m at most n. */
    private static final int SPANS = LEVELS * (LEVELS + 1) / 2;
    private static final int POINTS = MOST_PLACES + 1;

    /** The bit of the end of a text in a set of what can follow. */
    private static final int END_BIT = 1 << 26;
    /** Far above the rounds that any set of 12 rules and 26 letters needs to settle. */
    private static final int ROUNDS = 1000;

    private static final int REFUSED = -2;
    private static final int ENDLESS_TREES = -3;
    private static final int NOT_SPOKEN = -3;

    private static final int FILTERS = 3;
    private static final int ALL_FILTERS = 7;
    private static final int RANKS_ON = 1;
    private static final int SIDES_ON = 2;
    private static final int BANS_ON = 4;

    private static final int SIDE_LEFT = 1;
    private static final int SIDE_RIGHT = 2;
    private static final int SIDE_NEITHER = 3;

    private static final int ACT_READ = 0;
    private static final int ACT_DROP = 1;
    private static final int ACT_CHANGE = 2;
    private static final int ACT_STRIKE = 3;
    private static final int ACT_BAN = 4;
    private static final int ACT_SWITCH = 5;

    private final int[] tape = new int[TAPE_BYTES];
    private int tapeBytes;

    private final Setting now = new Setting();
    private final Setting[] images = new Setting[MOST_IMAGES];
    private final Grammar spare = new Grammar();

    private final Facts facts = new Facts(now);
    private final States states = new States();
    private final Chart plain = new Chart(now, false);
    private final Chart allowed = new Chart(now, true);
    private final Levels levels = new Levels(now, states, plain);
    private final Counts counts = new Counts(now, allowed);
    private final Sizes sizes = new Sizes(now, allowed);
    private final Forest forest = new Forest(now, allowed);
    private final Mender mender = new Mender(now);
    private final Speaker speaker = new Speaker(now);

    public PackedForest() {
        for (int k = 0; k < MOST_IMAGES; k++) {
            images[k] = new Setting();
        }
    }

    // ---- the tape and the grammar

    public int feed(int a, int b, int c, int d, int e) {
        if (tapeBytes + FEED_BYTES > TAPE_BYTES) {
            return NONE;
        }
        putBytes(a);
        putBytes(b);
        putBytes(c);
        putBytes(d);
        putBytes(e);
        return tapeBytes;
    }

    private void putBytes(int four) {
        for (int shift = 24; shift >= 0; shift -= 8) {
            if (tapeBytes < TAPE_BYTES) {
                tape[tapeBytes] = (four >>> shift) & 255;
                tapeBytes++;
            }
        }
    }

    public int end(int n) {
        if (n < 0 || n > tapeBytes) {
            return NONE;
        }
        tapeBytes = n;
        return n;
    }

    public int grammar() {
        int bytes = tapeBytes;
        tapeBytes = 0;
        int fault = spare.tell(tape, bytes);
        if (fault == 0 && !states.find(spare, 0)) {
            fault = faultAt(bytes, 5);
        }
        if (fault != 0) {
            return -2 - fault;
        }
        now.begin(spare);
        rulesChanged();
        return now.grammar.rules;
    }

    private static int faultAt(int place, int kind) {
        return 1 + 8 * place + kind;
    }

    // ---- what hangs on what

    /** All but the states: whoever changes rules knows whether these were found anew. */
    private void rulesChanged() {
        facts.stand = false;
        plain.columns = 0;
        mender.columns = 0;
        levels.stand = false;
        filtersChanged();
    }

    private void filtersChanged() {
        allowed.columns = 0;
        counts.columns = 0;
        sizes.columns = 0;
        forest.stand = false;
    }

    /** Columns up to that place hang on the letters ahead of it alone, so these still stand. */
    private void textChanged(int place) {
        int stand = place + 1;
        plain.columns = Math.min(plain.columns, stand);
        mender.columns = Math.min(mender.columns, stand);
        allowed.columns = Math.min(allowed.columns, stand);
        counts.columns = Math.min(counts.columns, stand);
        sizes.columns = Math.min(sizes.columns, stand);
        levels.stand = false;
        forest.stand = false;
    }

    private Facts foundFacts() {
        facts.find();
        return facts;
    }

    private States foundStates() {
        if (!states.stand) {
            states.find(now.grammar, now.struck);
        }
        return states;
    }

    // ---- what there is

    private boolean noGrammar() {
        return now.grammar.rules == 0;
    }

    private boolean isRule(int rule) {
        return rule >= 0 && rule < now.grammar.rules;
    }

    private boolean isState(int state) {
        return !noGrammar() && state >= 0 && state < foundStates().found;
    }

    private boolean isLeft(int capital) {
        return capital >= FIRST_CAPITAL && capital < SYMBOLS
            && (now.grammar.lefts >> (capital - FIRST_CAPITAL) & 1) != 0;
    }

    private boolean isSpan(int m, int n) {
        return m >= 0 && m <= n && n <= now.length;
    }

    private boolean isLevel(int level) {
        return !noGrammar() && level >= 0 && level <= now.length;
    }

    private static boolean isSmall(int small) {
        return small >= 0 && small < FIRST_CAPITAL;
    }

    /** Spans lie column by column, so that those of a shorter text stay where they are. */
    private static int span(int m, int n) {
        return (n * (n + 1) >> 1) + m;
    }

    // ---- the rules and their facts

    public int rule(int rule, int what) {
        if (!isRule(rule)) {
            return NONE;
        }
        switch (what) {
            case 0:
                return now.grammar.left[rule];
            case 1:
                return now.grammar.size[rule];
            case 2:
                return now.grammar.rank[rule];
            case 3:
                return now.grammar.side[rule];
            case 4:
                return now.struck >> rule & 1;
            default:
                return NONE;
        }
    }

    public int symbol(int rule, int place) {
        if (!isRule(rule) || place < 0 || place >= now.grammar.size[rule]) {
            return NONE;
        }
        return now.grammar.symbolAt(rule, place);
    }

    public int facts(int what) {
        if (noGrammar()) {
            return NONE;
        }
        switch (what) {
            case 0:
                return foundFacts().empty;
            case 1:
                return foundFacts().ends;
            case 2:
                return foundFacts().reached;
            case 3:
                return foundFacts().loops;
            case 4:
                return foundFacts().recurs;
            case 5:
                return now.grammar.lefts;
            default:
                return NONE;
        }
    }

    public int firsts(int capital) {
        return isLeft(capital) ? foundFacts().first[capital - FIRST_CAPITAL] : NONE;
    }

    public int follows(int capital) {
        return isLeft(capital) ? foundFacts().follow[capital - FIRST_CAPITAL] : NONE;
    }

    public int shortest(int capital) {
        return isLeft(capital) ? foundFacts().shortRow[capital - FIRST_CAPITAL] : NONE;
    }

    // ---- the states

    public int states() {
        return noGrammar() ? NONE : foundStates().found;
    }

    public int goes(int state, int symbol) {
        if (!isState(state) || symbol < 0 || symbol >= SYMBOLS) {
            return NONE;
        }
        return foundStates().target(state, symbol);
    }

    public int points(int state, int rule) {
        if (!isState(state) || !isRule(rule)) {
            return NONE;
        }
        return foundStates().pointsOf(state, rule);
    }

    public int done(int state) {
        if (!isState(state)) {
            return NONE;
        }
        int empty = foundFacts().empty;
        int rules = 0;
        for (int rule = 0; rule < now.grammar.rules; rule++) {
            if ((states.pointsOf(state, rule) & now.grammar.nulledPoints(rule, empty)) != 0) {
                rules |= 1 << rule;
            }
        }
        return rules;
    }

    public int clashes() {
        if (noGrammar()) {
            return NONE;
        }
        foundStates();
        foundFacts();
        int clashing = 0;
        for (int state = 0; state < states.found; state++) {
            if (hasClash(state)) {
                clashing++;
            }
        }
        return clashing;
    }

    /** The states and the facts must have been found. */
    private boolean hasClash(int state) {
        int once = states.smallsFrom(state);
        for (int rule = 0; rule < now.grammar.rules; rule++) {
            int last = 1 << now.grammar.size[rule];
            if ((states.pointsOf(state, rule) & last) != 0) {
                int behind = facts.follow[now.grammar.left[rule] - FIRST_CAPITAL];
                if ((once & behind) != 0) {
                    return true;
                }
                once |= behind;
            }
        }
        return false;
    }

    // ---- the acts

    public int read(int small) {
        if (noGrammar() || !isSmall(small) || now.length >= MOST_LETTERS) {
            return NONE;
        }
        now.remember(ACT_READ, 0);
        now.push(small);
        textChanged(now.length - 1);
        return now.length;
    }

    public int drop() {
        if (now.length == 0) {
            return NONE;
        }
        int small = now.pop();
        now.remember(ACT_DROP, small);
        textChanged(now.length);
        return small;
    }

    public int change(int place, int small) {
        if (place < 0 || place >= now.length || !isSmall(small) || now.letters[place] == small) {
            return NONE;
        }
        int old = now.letters[place];
        now.remember(ACT_CHANGE, place << 5 | old);
        now.put(place, small);
        textChanged(place);
        return old;
    }

    public int strike(int rule) {
        if (!isRule(rule)) {
            return NONE;
        }
        int struck = now.struck ^ 1 << rule;
        if (!states.find(now.grammar, struck)) {
            return REFUSED;
        }
        now.remember(ACT_STRIKE, rule);
        now.struck = struck;
        rulesChanged();
        return states.found;
    }

    public int ban(int rule, int place, int below) {
        if (!isRule(rule) || !isRule(below) || place < 0 || place >= now.grammar.size[rule]) {
            return NONE;
        }
        if (now.grammar.symbolAt(rule, place) != now.grammar.left[below]) {
            return NONE;
        }
        int slot = rule * MOST_PLACES + place;
        if (!now.isBan(slot, below) && now.bans >= MOST_BANS) {
            return NONE;
        }
        now.remember(ACT_BAN, slot << 4 | below);
        now.toggleBan(slot, below);
        filtersChanged();
        return now.bans;
    }

    public int filter(int filter) {
        if (noGrammar() || filter < 0 || filter >= FILTERS) {
            return NONE;
        }
        now.remember(ACT_SWITCH, filter);
        now.filters ^= 1 << filter;
        filtersChanged();
        return now.filters;
    }

    public int undo() {
        if (now.actCount == 0) {
            return REFUSED;
        }
        now.actCount--;
        int act = now.acts[now.actCount];
        int detail = act >> 3;
        switch (act & 7) {
            case ACT_READ:
                now.pop();
                textChanged(now.length);
                break;
            case ACT_DROP:
                now.push(detail);
                textChanged(now.length - 1);
                break;
            case ACT_CHANGE:
                now.put(detail >> 5, detail & 31);
                textChanged(detail >> 5);
                break;
            case ACT_STRIKE:
                now.struck ^= 1 << detail;
                states.stand = false;
                rulesChanged();
                break;
            case ACT_BAN:
                now.toggleBan(detail >> 4, detail & 15);
                filtersChanged();
                break;
            default:
                now.filters ^= 1 << detail;
                filtersChanged();
                break;
        }
        return now.actCount;
    }

    // ---- the text and the levels of its stack

    public int letter(int place) {
        return place >= 0 && place < now.length ? now.letters[place] : NONE;
    }

    public int alive(int level, int state) {
        if (!isLevel(level)) {
            return NONE;
        }
        if (state != NONE && !isState(state)) {
            return NONE;
        }
        foundStates();
        levels.find();
        if (state == NONE) {
            return levels.howManyAlive(level);
        }
        return levels.isAlive(level, state) ? 1 : 0;
    }

    public int links(int level, int state) {
        if (!isLevel(level)) {
            return NONE;
        }
        if (state != NONE && !isState(state)) {
            return NONE;
        }
        foundStates();
        levels.find();
        return state == NONE ? levels.howManyLinks(level) : levels.linksOf(level, state);
    }

    public int expects(int level) {
        if (!isLevel(level)) {
            return NONE;
        }
        foundStates();
        levels.find();
        return levels.expected(level);
    }

    // ---- trees and the forest

    public int derives(int capital, int m, int n) {
        if (!isLeft(capital) || !isSpan(m, n)) {
            return NONE;
        }
        plain.fill();
        return plain.hasRow(capital, m, n) ? 1 : 0;
    }

    public int trees(int capital, int m, int n) {
        if (!isLeft(capital) || !isSpan(m, n)) {
            return NONE;
        }
        counts.fill();
        long many = counts.howMany(now.grammar.rulesOf[capital - FIRST_CAPITAL], span(m, n));
        if (many == Counts.ENDLESS) {
            return ENDLESS_TREES;
        }
        return many >= Counts.TOO_MANY ? REFUSED : (int) many;
    }

    public int piece(int rule, int m, int n) {
        if (!isRule(rule) || !isSpan(m, n)) {
            return NONE;
        }
        forest.find();
        return forest.pieces[span(m, n)] >> rule & 1;
    }

    public int ways(int rule, int m, int n) {
        if (!isRule(rule) || !isSpan(m, n)) {
            return NONE;
        }
        allowed.fill();
        return allowed.howManyWays(rule, m, n);
    }

    public int forest(int what) {
        if (noGrammar() || what < 0 || what > 3) {
            return NONE;
        }
        forest.find();
        if (what == 0) {
            return forest.howManyPieces();
        }
        forest.tally();
        if (what == 1) {
            return forest.nodes;
        }
        return what == 2 ? forest.ambiguous : forest.narrow;
    }

    public int smallest() {
        if (noGrammar()) {
            return NONE;
        }
        sizes.fill();
        long size = sizes.wholeSize();
        // An int holds it: at most 276 pieces have letters, with three empty trees of 11 rules each.
        return size >= Sizes.NO_TREE ? REFUSED : (int) size;
    }

    public int tree(int k, int what) {
        if (noGrammar() || k < 0 || what < 0 || what > 2) {
            return NONE;
        }
        sizes.fill();
        long size = sizes.wholeSize();
        if (size >= Sizes.NO_TREE || k >= size) {
            return NONE;
        }
        sizes.seek(k);
        if (what == 0) {
            return sizes.rule;
        }
        return what == 1 ? sizes.from : sizes.to;
    }

    public int whole() {
        if (noGrammar()) {
            return NONE;
        }
        plain.fill();
        for (int n = now.length; n >= 0; n--) {
            if (plain.hasRow(now.grammar.left[0], 0, n)) {
                return n;
            }
        }
        return REFUSED;
    }

    public int mend() {
        if (noGrammar()) {
            return NONE;
        }
        mender.fill();
        int cost = mender.wholeCost();
        return cost >= Mender.NEVER ? REFUSED : cost;
    }

    // ---- sentences that are drawn

    public int seed(int x) {
        if (x < 0) {
            return NONE;
        }
        int old = now.x;
        now.x = x;
        return old;
    }

    public int spoken(int t, int what) {
        if (noGrammar() || t < 1 || t > MOST_TIMES || what < NONE || what >= MOST_SPOKEN) {
            return NOT_SPOKEN;
        }
        if (!speaker.speakTimes(t)) {
            return REFUSED;
        }
        if (what == NONE) {
            return speaker.length;
        }
        return what < speaker.length ? speaker.row[what] : NONE;
    }

    // ---- counts and images

    public int count(int what) {
        switch (what) {
            case 0:
                return now.grammar.rules;
            case 1:
                return noGrammar() ? NONE : now.grammar.left[0];
            case 2:
                return now.length;
            case 3:
                return now.struck;
            case 4:
                return now.bans;
            case 5:
                return now.filters;
            case 6:
                return now.actCount;
            case 7:
                return now.x;
            case 8:
                return tapeBytes;
            default:
                return NONE;
        }
    }

    public int image(int k) {
        if (k < 0 || k >= MOST_IMAGES) {
            return NONE;
        }
        images[k].copyFrom(now);
        images[k].made = true;
        return now.length;
    }

    public int back(int k) {
        if (k < 0 || k >= MOST_IMAGES || !images[k].made) {
            return NONE;
        }
        now.copyFrom(images[k]);
        states.stand = false;
        rulesChanged();
        return now.length;
    }

    /** The rules as they were told, whether struck or not. */
    private static final class Grammar {
        private static final int AWAIT_LEFT = 0;
        private static final int AWAIT_EQUALS = 1;
        private static final int AWAIT_SYMBOL = 2;
        private static final int AWAIT_RANK = 3;
        private static final int AWAIT_SIDE = 4;
        private static final int AWAIT_NEXT = 5;

        int rules;
        int lefts;
        final int[] left = new int[MOST_RULES];
        final int[] size = new int[MOST_RULES];
        final int[] rank = new int[MOST_RULES];
        final int[] side = new int[MOST_RULES];
        final int[] symbols = new int[SLOTS];
        /** Of each capital the rules whose left it is, as bits. */
        final int[] rulesOf = new int[CAPITALS];

        int symbolAt(int rule, int place) {
            return symbols[rule * MOST_PLACES + place];
        }

        void copyFrom(Grammar other) {
            rules = other.rules;
            lefts = other.lefts;
            System.arraycopy(other.left, 0, left, 0, MOST_RULES);
            System.arraycopy(other.size, 0, size, 0, MOST_RULES);
            System.arraycopy(other.rank, 0, rank, 0, MOST_RULES);
            System.arraycopy(other.side, 0, side, 0, MOST_RULES);
            System.arraycopy(other.symbols, 0, symbols, 0, SLOTS);
            System.arraycopy(other.rulesOf, 0, rulesOf, 0, CAPITALS);
        }

        /** Points of a rule behind which there are only capitals that can be empty. */
        int nulledPoints(int rule, int empty) {
            int points = 1 << size[rule];
            for (int place = size[rule] - 1; place >= 0; place--) {
                if (!isAmong(symbolAt(rule, place), empty)) {
                    break;
                }
                points |= 1 << place;
            }
            return points;
        }

        static boolean isAmong(int symbol, int capitals) {
            return symbol >= FIRST_CAPITAL && (capitals >> (symbol - FIRST_CAPITAL) & 1) != 0;
        }

        /** Takes the rules of a tape: its fault, or 0; whether the states are too many is left open. */
        int tell(int[] tape, int bytes) {
            rules = 0;
            lefts = 0;
            Arrays.fill(rulesOf, 0);
            int awaited = AWAIT_LEFT;
            for (int place = 0; place < bytes; place++) {
                int sign = tape[place];
                if (sign != ' ') {
                    int kind = faultOf(awaited, sign);
                    if (kind >= 0) {
                        return faultAt(place, kind);
                    }
                    awaited = take(awaited, sign);
                }
            }
            if (awaited == AWAIT_LEFT || awaited == AWAIT_EQUALS || awaited == AWAIT_RANK) {
                return faultAt(bytes, 0);
            }
            return faultOfCapitals(tape, bytes);
        }

        /** The kind of fault that a sign is where something is awaited; NONE if it can stand. */
        private int faultOf(int awaited, int sign) {
            switch (awaited) {
                case AWAIT_LEFT:
                    return faultOfLeft(sign);
                case AWAIT_EQUALS:
                    return sign == '=' ? NONE : 0;
                case AWAIT_SYMBOL:
                    if (isLetter(sign)) {
                        return size[rules - 1] == MOST_PLACES ? 3 : NONE;
                    }
                    return sign == ':' || sign == ';' ? NONE : 0;
                case AWAIT_RANK:
                    return sign >= '1' && sign <= '9' ? NONE : 1;
                case AWAIT_SIDE:
                    return sign == ';' || sideOf(sign) != 0 ? NONE : 0;
                default:
                    return sign == ';' ? NONE : 0;
            }
        }

        private int faultOfLeft(int sign) {
            if (!isCapital(sign)) {
                return 0;
            }
            boolean isNew = (lefts >> (sign - 'A') & 1) == 0;
            if (rules == MOST_RULES || isNew && Integer.bitCount(lefts) == MOST_LEFTS) {
                return 4;
            }
            return NONE;
        }

        /** Takes a sign that can stand there: what is awaited then. */
        private int take(int awaited, int sign) {
            switch (awaited) {
                case AWAIT_LEFT:
                    beginRule(sign - 'A');
                    return AWAIT_EQUALS;
                case AWAIT_EQUALS:
                    return AWAIT_SYMBOL;
                case AWAIT_SYMBOL:
                    if (isLetter(sign)) {
                        addSymbol(isCapital(sign) ? sign - 'A' + FIRST_CAPITAL : sign - 'a');
                        return AWAIT_SYMBOL;
                    }
                    return sign == ':' ? AWAIT_RANK : AWAIT_LEFT;
                case AWAIT_RANK:
                    rank[rules - 1] = sign - '0';
                    return AWAIT_SIDE;
                case AWAIT_SIDE:
                    side[rules - 1] = sideOf(sign);
                    return sign == ';' ? AWAIT_LEFT : AWAIT_NEXT;
                default:
                    return AWAIT_LEFT;
            }
        }

        private void beginRule(int capital) {
            left[rules] = capital + FIRST_CAPITAL;
            size[rules] = 0;
            rank[rules] = 0;
            side[rules] = 0;
            rulesOf[capital] |= 1 << rules;
            lefts |= 1 << capital;
            rules++;
        }

        private void addSymbol(int symbol) {
            int rule = rules - 1;
            symbols[rule * MOST_PLACES + size[rule]] = symbol;
            size[rule]++;
        }

        /** A capital that is on no left side can only stand on a right one. */
        private int faultOfCapitals(int[] tape, int bytes) {
            for (int place = 0; place < bytes; place++) {
                int sign = tape[place];
                if (isCapital(sign) && (lefts >> (sign - 'A') & 1) == 0) {
                    return faultAt(place, 2);
                }
            }
            return 0;
        }

        private static boolean isCapital(int sign) {
            return sign >= 'A' && sign <= 'Z';
        }

        private static boolean isLetter(int sign) {
            return isCapital(sign) || sign >= 'a' && sign <= 'z';
        }

        private static int sideOf(int sign) {
            switch (sign) {
                case '<':
                    return SIDE_LEFT;
                case '>':
                    return SIDE_RIGHT;
                case '!':
                    return SIDE_NEITHER;
                default:
                    return 0;
            }
        }
    }

    /** All that an image holds. */
    private static final class Setting {
        final Grammar grammar = new Grammar();
        final int[] letters = new int[MOST_LETTERS];
        int length;
        int struck;
        /** Of each rule and place the rules that are banned below, as bits. */
        final int[] banned = new int[SLOTS];
        int bans;
        int filters = ALL_FILTERS;
        final int[] acts = new int[MOST_ACTS];
        int actCount;
        int x;
        boolean made;

        void copyFrom(Setting other) {
            grammar.copyFrom(other.grammar);
            System.arraycopy(other.letters, 0, letters, 0, MOST_LETTERS);
            length = other.length;
            struck = other.struck;
            System.arraycopy(other.banned, 0, banned, 0, SLOTS);
            bans = other.bans;
            filters = other.filters;
            System.arraycopy(other.acts, 0, acts, 0, MOST_ACTS);
            actCount = other.actCount;
            x = other.x;
        }

        void begin(Grammar told) {
            grammar.copyFrom(told);
            length = 0;
            struck = 0;
            Arrays.fill(banned, 0);
            bans = 0;
            filters = ALL_FILTERS;
            actCount = 0;
        }

        /** Rules that are not struck, as bits. */
        int toldRules() {
            return (1 << grammar.rules) - 1 & ~struck;
        }

        boolean isTold(int rule) {
            return (toldRules() >> rule & 1) != 0;
        }

        void remember(int act, int detail) {
            if (actCount == MOST_ACTS) {
                System.arraycopy(acts, 1, acts, 0, MOST_ACTS - 1);
                actCount--;
            }
            acts[actCount] = detail << 3 | act;
            actCount++;
        }

        void push(int small) {
            if (length < MOST_LETTERS) {
                letters[length] = small;
                length++;
            }
        }

        void put(int place, int small) {
            if (place >= 0 && place < length) {
                letters[place] = small;
            }
        }

        int pop() {
            if (length == 0) {
                return NONE;
            }
            length--;
            return letters[length];
        }

        boolean isBan(int slot, int below) {
            return (banned[slot] >> below & 1) != 0;
        }

        void toggleBan(int slot, int below) {
            if (slot >= 0 && slot < SLOTS) {
                bans += isBan(slot, below) ? -1 : 1;
                banned[slot] ^= 1 << below;
            }
        }

        boolean isForbidden(int rule, int place, int below) {
            int rank = grammar.rank[rule];
            int rankBelow = grammar.rank[below];
            if ((filters & RANKS_ON) != 0 && rankBelow > 0 && rankBelow < rank) {
                return true;
            }
            if ((filters & SIDES_ON) != 0 && rank > 0 && rank == rankBelow
                && isWrongSide(rule, place)) {
                return true;
            }
            return (filters & BANS_ON) != 0 && isBan(rule * MOST_PLACES + place, below);
        }

        private boolean isWrongSide(int rule, int place) {
            switch (grammar.side[rule]) {
                case SIDE_LEFT:
                    return place != 0;
                case SIDE_RIGHT:
                    return place != grammar.size[rule] - 1;
                case SIDE_NEITHER:
                    return true;
                default:
                    return false;
            }
        }
    }

    /** What can be said of capitals without a text. */
    private static final class Facts {
        /** Beside the firsts of a row of symbols: the row can be empty. */
        private static final int EMPTY_ROW = 1 << 27;

        final Setting now;
        boolean stand;
        int empty;
        int ends;
        int reached;
        int loops;
        int recurs;
        final int[] first = new int[CAPITALS];
        final int[] follow = new int[CAPITALS];
        /** How many letters the shortest row has; REFUSED where there is none. */
        final int[] shortRow = new int[CAPITALS];
        private final int[] steps = new int[CAPITALS];

        Facts(Setting now) {
            this.now = now;
        }

        void find() {
            if (stand) {
                return;
            }
            findShortRows();
            findReached();
            findFirsts();
            findFollows();
            findSteps(true);
            loops = backToThemselves();
            findSteps(false);
            recurs = backToThemselves();
            stand = true;
        }

        private void findShortRows() {
            Arrays.fill(shortRow, REFUSED);
            boolean changed = true;
            for (int round = 0; round < ROUNDS && changed; round++) {
                changed = false;
                for (int rule = 0; rule < now.grammar.rules; rule++) {
                    changed |= now.isTold(rule) && shorten(rule);
                }
            }
            ends = 0;
            empty = 0;
            for (int capital = 0; capital < CAPITALS; capital++) {
                if (shortRow[capital] >= 0) {
                    ends |= 1 << capital;
                }
                if (shortRow[capital] == 0) {
                    empty |= 1 << capital;
                }
            }
        }

        private boolean shorten(int rule) {
            int letters = 0;
            for (int place = 0; place < now.grammar.size[rule]; place++) {
                int symbol = now.grammar.symbolAt(rule, place);
                int part = symbol < FIRST_CAPITAL ? 1 : shortRow[symbol - FIRST_CAPITAL];
                if (part < 0) {
                    return false;
                }
                letters += part;
            }
            int capital = now.grammar.left[rule] - FIRST_CAPITAL;
            if (shortRow[capital] >= 0 && shortRow[capital] <= letters) {
                return false;
            }
            shortRow[capital] = letters;
            return true;
        }

        private void findReached() {
            reached = 1 << (now.grammar.left[0] - FIRST_CAPITAL);
            int before = 0;
            for (int round = 0; round < ROUNDS && before != reached; round++) {
                before = reached;
                for (int rule = 0; rule < now.grammar.rules; rule++) {
                    if (now.isTold(rule) && Grammar.isAmong(now.grammar.left[rule], reached)) {
                        reached |= capitalsOf(rule);
                    }
                }
            }
        }

        private int capitalsOf(int rule) {
            int capitals = 0;
            for (int place = 0; place < now.grammar.size[rule]; place++) {
                int symbol = now.grammar.symbolAt(rule, place);
                if (symbol >= FIRST_CAPITAL) {
                    capitals |= 1 << (symbol - FIRST_CAPITAL);
                }
            }
            return capitals;
        }

        private void findFirsts() {
            Arrays.fill(first, 0);
            boolean changed = true;
            for (int round = 0; round < ROUNDS && changed; round++) {
                changed = false;
                for (int rule = 0; rule < now.grammar.rules; rule++) {
                    if (now.isTold(rule)) {
                        changed |= add(first, now.grammar.left[rule], firstsOf(rule, 0) & ~EMPTY_ROW);
                    }
                }
            }
        }

        private void findFollows() {
            Arrays.fill(follow, 0);
            add(follow, now.grammar.left[0], END_BIT);
            boolean changed = true;
            for (int round = 0; round < ROUNDS && changed; round++) {
                changed = false;
                for (int rule = 0; rule < now.grammar.rules; rule++) {
                    if (now.isTold(rule) && Grammar.isAmong(now.grammar.left[rule], reached)) {
                        changed |= followInside(rule);
                    }
                }
            }
        }

        private boolean followInside(int rule) {
            boolean changed = false;
            for (int place = 0; place < now.grammar.size[rule]; place++) {
                int symbol = now.grammar.symbolAt(rule, place);
                if (symbol >= FIRST_CAPITAL) {
                    int behind = firstsOf(rule, place + 1);
                    if ((behind & EMPTY_ROW) != 0) {
                        behind = behind & ~EMPTY_ROW | follow[now.grammar.left[rule] - FIRST_CAPITAL];
                    }
                    changed |= add(follow, symbol, behind);
                }
            }
            return changed;
        }

        private static boolean add(int[] sets, int capital, int bits) {
            int old = sets[capital - FIRST_CAPITAL];
            sets[capital - FIRST_CAPITAL] = old | bits;
            return (old | bits) != old;
        }

        /** Smalls that can come first in what stands from a place of a rule on. */
        private int firstsOf(int rule, int from) {
            int bits = 0;
            for (int place = from; place < now.grammar.size[rule]; place++) {
                int symbol = now.grammar.symbolAt(rule, place);
                if (symbol < FIRST_CAPITAL) {
                    return bits | 1 << symbol;
                }
                bits |= first[symbol - FIRST_CAPITAL];
                if (!Grammar.isAmong(symbol, empty)) {
                    return bits;
                }
            }
            return bits | EMPTY_ROW;
        }

        /** From a capital to those that one of its rules begins with, or (alone) consists of. */
        private void findSteps(boolean alone) {
            Arrays.fill(steps, 0);
            for (int rule = 0; rule < now.grammar.rules; rule++) {
                if (now.isTold(rule)) {
                    stepsOf(rule, alone);
                }
            }
        }

        private void stepsOf(int rule, boolean alone) {
            int nulled = now.grammar.nulledPoints(rule, empty);
            for (int place = 0; place < now.grammar.size[rule]; place++) {
                int symbol = now.grammar.symbolAt(rule, place);
                if (symbol < FIRST_CAPITAL) {
                    return;
                }
                if (!alone || (nulled >> (place + 1) & 1) != 0) {
                    add(steps, now.grammar.left[rule], 1 << (symbol - FIRST_CAPITAL));
                }
                if (!Grammar.isAmong(symbol, empty)) {
                    return;
                }
            }
        }

        private int backToThemselves() {
            for (int middle = 0; middle < CAPITALS; middle++) {
                for (int capital = 0; capital < CAPITALS; capital++) {
                    if ((steps[capital] >> middle & 1) != 0) {
                        steps[capital] |= steps[middle];
                    }
                }
            }
            int back = 0;
            for (int capital = 0; capital < CAPITALS; capital++) {
                back |= steps[capital] & 1 << capital;
            }
            return back;
        }
    }

    /** Sets of points, each set in one long: five bits a rule. */
    private static final class States {
        boolean stand;
        int found;
        private final long[] sets = new long[MOST_STATES];
        private final int[] targets = new int[MOST_STATES * SYMBOLS];
        /** Of each symbol the points that are ahead of it. */
        private final long[] ahead = new long[SYMBOLS];
        /** Of each capital the first points that a point ahead of it brings along. */
        private final long[] brought = new long[CAPITALS];

        int target(int state, int symbol) {
            return targets[state * SYMBOLS + symbol];
        }

        int pointsOf(int state, int rule) {
            return (int) (sets[state] >> rule * POINTS) & (1 << POINTS) - 1;
        }

        int smallsFrom(int state) {
            int smalls = 0;
            for (int small = 0; small < FIRST_CAPITAL; small++) {
                if (target(state, small) >= 0) {
                    smalls |= 1 << small;
                }
            }
            return smalls;
        }

        /** Whether the states are not too many; only then what is found is of use. */
        boolean find(Grammar grammar, int struck) {
            stand = false;
            findPoints(grammar, struck);
            sets[0] = brought[grammar.left[0] - FIRST_CAPITAL];
            found = 1;
            for (int state = 0; state < found && state < MOST_STATES; state++) {
                if (!goOn(state, FIRST_CAPITAL, SYMBOLS) || !goOn(state, 0, FIRST_CAPITAL)) {
                    return false;
                }
            }
            stand = true;
            return true;
        }

        private void findPoints(Grammar grammar, int struck) {
            Arrays.fill(ahead, 0L);
            Arrays.fill(brought, 0L);
            for (int rule = 0; rule < grammar.rules; rule++) {
                if ((struck >> rule & 1) == 0) {
                    brought[grammar.left[rule] - FIRST_CAPITAL] |= 1L << rule * POINTS;
                    for (int place = 0; place < grammar.size[rule]; place++) {
                        ahead[grammar.symbolAt(rule, place)] |= 1L << rule * POINTS + place;
                    }
                }
            }
            boolean changed = true;
            for (int round = 0; round < ROUNDS && changed; round++) {
                changed = false;
                for (int capital = 0; capital < CAPITALS; capital++) {
                    long before = brought[capital];
                    brought[capital] = closed(before);
                    changed |= brought[capital] != before;
                }
            }
        }

        private long closed(long points) {
            long all = points;
            for (int capital = 0; capital < CAPITALS; capital++) {
                if ((points & ahead[FIRST_CAPITAL + capital]) != 0) {
                    all |= brought[capital];
                }
            }
            return all;
        }

        private boolean goOn(int state, int firstSymbol, int behindLast) {
            for (int symbol = firstSymbol; symbol < behindLast; symbol++) {
                long behind = (sets[state] & ahead[symbol]) << 1;
                int target = NOWHERE;
                if (behind != 0) {
                    target = numberOf(closed(behind));
                    if (target == NONE) {
                        return false;
                    }
                }
                targets[state * SYMBOLS + symbol] = target;
            }
            return true;
        }

        private int numberOf(long points) {
            for (int state = 0; state < found; state++) {
                if (sets[state] == points) {
                    return state;
                }
            }
            if (found == MOST_STATES) {
                return NONE;
            }
            sets[found] = points;
            found++;
            return found - 1;
        }

        private static final int NOWHERE = -2;
    }

    /** Of each span the rules that have trees there: all trees, or those that filters allow. */
    private static final class Chart {
        final Setting now;
        final boolean filtered;
        /** How many columns stand; with 0 of them what fits is unknown, too. */
        int columns;
        /** Of each rule and place the rules that may be below, as bits. */
        private final int[] fitting = new int[SLOTS];
        /** Of each span the rules that have trees there, as bits. */
        private final int[] rooted = new int[SPANS];
        /** Of each rule, place and begin the ends of that symbol, as bits. */
        private final int[] ends = new int[SLOTS * LEVELS];
        private final int[] row = new int[LEVELS];

        Chart(Setting now, boolean filtered) {
            this.now = now;
            this.filtered = filtered;
        }

        int rulesAt(int m, int n) {
            return rooted[span(m, n)];
        }

        boolean hasRow(int capital, int m, int n) {
            return (rulesAt(m, n) & now.grammar.rulesOf[capital - FIRST_CAPITAL]) != 0;
        }

        boolean mayBeBelow(int rule, int place, int below) {
            return (fitting[rule * MOST_PLACES + place] >> below & 1) != 0;
        }

        /** Rules with trees from m to n that may be below a capital at a place of a rule. */
        int rulesBelow(int rule, int place, int m, int n) {
            return rooted[span(m, n)] & fitting[rule * MOST_PLACES + place];
        }

        /** Where the symbol at a place of a rule can end that begins at m, n at most, as bits. */
        int endsOf(int rule, int place, int m, int n) {
            return ends[(rule * MOST_PLACES + place) * LEVELS + m] & (2 << n) - 1;
        }

        boolean fits(int rule, int place, int m, int n) {
            return (ends[(rule * MOST_PLACES + place) * LEVELS + m] >> n & 1) != 0;
        }

        void fill() {
            if (columns == 0) {
                findFitting();
            }
            for (int n = columns; n <= now.length; n++) {
                for (int m = n; m >= 0; m--) {
                    placeSmalls(m, n);
                    settle(m, n);
                }
            }
            columns = now.length + 1;
        }

        private void findFitting() {
            for (int rule = 0; rule < now.grammar.rules; rule++) {
                for (int place = 0; place < now.grammar.size[rule]; place++) {
                    fitting[rule * MOST_PLACES + place] = fittingBelow(rule, place);
                }
            }
        }

        private int fittingBelow(int rule, int place) {
            int symbol = now.grammar.symbolAt(rule, place);
            if (symbol < FIRST_CAPITAL) {
                return 0;
            }
            int fit = now.grammar.rulesOf[symbol - FIRST_CAPITAL] & now.toldRules();
            for (int below = 0; below < now.grammar.rules && filtered; below++) {
                if (now.isForbidden(rule, place, below)) {
                    fit &= ~(1 << below);
                }
            }
            return fit;
        }

        /** What another text left there is taken away, too. */
        private void placeSmalls(int m, int n) {
            for (int rule = 0; rule < now.grammar.rules; rule++) {
                for (int place = 0; place < now.grammar.size[rule]; place++) {
                    int slot = (rule * MOST_PLACES + place) * LEVELS + m;
                    ends[slot] &= ~(1 << n);
                    if (n == m + 1 && now.letters[m] == now.grammar.symbolAt(rule, place)) {
                        ends[slot] |= 1 << n;
                    }
                }
            }
        }

        /** A rule can have a tree of another one of the same span below it, so this goes in rounds. */
        private void settle(int m, int n) {
            int here = span(m, n);
            rooted[here] = 0;
            int told = now.toldRules();
            int before = NONE;
            for (int round = 0; round <= MOST_RULES && before != rooted[here]; round++) {
                before = rooted[here];
                for (int rule = 0; rule < now.grammar.rules; rule++) {
                    if (((told & ~rooted[here]) >> rule & 1) != 0 && reaches(rule, m, n)) {
                        rooted[here] |= 1 << rule;
                        placeRule(rule, m, n);
                    }
                }
            }
        }

        private void placeRule(int below, int m, int n) {
            for (int rule = 0; rule < now.grammar.rules; rule++) {
                for (int place = 0; place < now.grammar.size[rule]; place++) {
                    if (mayBeBelow(rule, place, below)) {
                        ends[(rule * MOST_PLACES + place) * LEVELS + m] |= 1 << n;
                    }
                }
            }
        }

        private boolean reaches(int rule, int m, int n) {
            int places = 1 << m;
            for (int place = 0; place < now.grammar.size[rule] && places != 0; place++) {
                places = endsBehind(rule, place, places, n);
            }
            return (places >> n & 1) != 0;
        }

        /** Where a symbol can end that begins at one of these places, n at most, as bits. */
        int endsBehind(int rule, int place, int begins, int n) {
            int behind = 0;
            int slot = (rule * MOST_PLACES + place) * LEVELS;
            for (int i = 0; i <= n; i++) {
                if ((begins >> i & 1) != 0) {
                    behind |= ends[slot + i];
                }
            }
            return behind & (2 << n) - 1;
        }

        int howManyWays(int rule, int m, int n) {
            if (!now.isTold(rule)) {
                return 0;
            }
            Arrays.fill(row, 0);
            row[m] = 1;
            for (int place = 0; place < now.grammar.size[rule]; place++) {
                // From the last begin on, as no symbol ends ahead of where it begins.
                for (int i = n; i >= m; i--) {
                    goOnWith(rule, place, i, n);
                }
            }
            return row[n];
        }

        private void goOnWith(int rule, int place, int i, int n) {
            int ways = row[i];
            row[i] = 0;
            int behind = ways == 0 ? 0 : endsOf(rule, place, i, n);
            for (int j = i; j <= n && behind >> j != 0; j++) {
                if ((behind >> j & 1) != 0) {
                    row[j] += ways;
                }
            }
        }
    }

    /** The stack of states by levels. */
    private static final class Levels {
        final Setting now;
        final States states;
        final Chart plain;
        boolean stand;
        private final boolean[] lives = new boolean[LEVELS * MOST_STATES];
        private final int[] linkCounts = new int[LEVELS * MOST_STATES];
        private final int[] waiting = new int[MOST_STATES];
        private int waitingCount;

        Levels(Setting now, States states, Chart plain) {
            this.now = now;
            this.states = states;
            this.plain = plain;
        }

        boolean isAlive(int level, int state) {
            return lives[level * MOST_STATES + state];
        }

        int linksOf(int level, int state) {
            return linkCounts[level * MOST_STATES + state];
        }

        int howManyAlive(int level) {
            int many = 0;
            for (int state = 0; state < states.found; state++) {
                many += isAlive(level, state) ? 1 : 0;
            }
            return many;
        }

        int howManyLinks(int level) {
            int many = 0;
            for (int state = 0; state < states.found; state++) {
                many += linksOf(level, state);
            }
            return many;
        }

        int expected(int level) {
            int smalls = 0;
            for (int state = 0; state < states.found; state++) {
                if (isAlive(level, state)) {
                    smalls |= states.smallsFrom(state);
                }
            }
            return smalls;
        }

        /** The states must have been found. */
        void find() {
            if (stand) {
                return;
            }
            plain.fill();
            Arrays.fill(linkCounts, 0);
            for (int k = 0; k < LEVELS * MOST_STATES; k++) {
                lives[k] = false;
            }
            lives[0] = true;
            for (int level = 0; level <= now.length; level++) {
                gather(level);
                for (int k = 0; k < waitingCount && k < MOST_STATES; k++) {
                    goFrom(level, waiting[k]);
                }
            }
            stand = true;
        }

        private void gather(int level) {
            waitingCount = 0;
            for (int state = 0; state < states.found; state++) {
                if (isAlive(level, state)) {
                    waiting[waitingCount] = state;
                    waitingCount++;
                }
            }
        }

        private void goFrom(int level, int state) {
            for (int capital = FIRST_CAPITAL; capital < SYMBOLS; capital++) {
                int target = states.target(state, capital);
                for (int n = level; n <= now.length && target >= 0; n++) {
                    if (plain.hasRow(capital, level, n)) {
                        link(level, n, target);
                    }
                }
            }
            if (level < now.length) {
                int target = states.target(state, now.letters[level]);
                if (target >= 0) {
                    link(level, level + 1, target);
                }
            }
        }

        private void link(int from, int level, int state) {
            int here = level * MOST_STATES + state;
            linkCounts[here]++;
            if (!lives[here]) {
                lives[here] = true;
                if (level == from && waitingCount < MOST_STATES) {
                    waiting[waitingCount] = state;
                    waitingCount++;
                }
            }
        }
    }

    /** How many allowed trees each rule has from m to n. */
    private static final class Counts {
        static final long TOO_MANY = 1L << 31;
        static final long ENDLESS = 1L << 40;

        final Setting now;
        final Chart chart;
        int columns;
        private final long[] trees = new long[MOST_RULES * SPANS];
        private final long[] row = new long[LEVELS];

        Counts(Setting now, Chart chart) {
            this.now = now;
            this.chart = chart;
        }

        private static long sum(long a, long b) {
            if (a == ENDLESS || b == ENDLESS) {
                return ENDLESS;
            }
            return a + b < TOO_MANY ? a + b : TOO_MANY;
        }

        private static long product(long a, long b) {
            if (a == 0 || b == 0) {
                return 0;
            }
            if (a == ENDLESS || b == ENDLESS) {
                return ENDLESS;
            }
            return a * b < TOO_MANY ? a * b : TOO_MANY;
        }

        long howMany(int rules, int here) {
            long many = 0;
            for (int rule = 0; rule < now.grammar.rules; rule++) {
                if ((rules >> rule & 1) != 0) {
                    many = sum(many, trees[rule * SPANS + here]);
                }
            }
            return many;
        }

        void fill() {
            chart.fill();
            for (int n = columns; n <= now.length; n++) {
                for (int m = n; m >= 0; m--) {
                    settle(m, n);
                }
            }
            columns = now.length + 1;
        }

        /**
         * A rule is counted when no rule is open that it can have below it for the same span;
         * those that stay open are on a ring or above one.
         */
        private void settle(int m, int n) {
            int here = span(m, n);
            int open = chart.rulesAt(m, n);
            for (int rule = 0; rule < now.grammar.rules; rule++) {
                trees[rule * SPANS + here] = (open >> rule & 1) != 0 ? ENDLESS : 0;
            }
            int before = 0;
            for (int round = 0; round <= MOST_RULES && before != open; round++) {
                before = open;
                for (int rule = 0; rule < now.grammar.rules; rule++) {
                    if ((open >> rule & 1) != 0 && (wholeBelow(rule, m, n) & open) == 0) {
                        trees[rule * SPANS + here] = treesOf(rule, m, n);
                        open &= ~(1 << rule);
                    }
                }
            }
        }

        /** Rules that can be below this one for all of its span, the other symbols being empty. */
        private int wholeBelow(int rule, int m, int n) {
            int rules = 0;
            int size = now.grammar.size[rule];
            for (int place = 0; place < size; place++) {
                boolean othersEmpty = true;
                for (int other = 0; other < size && othersEmpty; other++) {
                    int at = other < place ? m : n;
                    othersEmpty = other == place || chart.fits(rule, other, at, at);
                }
                if (othersEmpty && now.grammar.symbolAt(rule, place) >= FIRST_CAPITAL) {
                    rules |= chart.rulesBelow(rule, place, m, n);
                }
            }
            return rules;
        }

        private long treesOf(int rule, int m, int n) {
            Arrays.fill(row, 0L);
            row[m] = 1;
            for (int place = 0; place < now.grammar.size[rule]; place++) {
                for (int i = n; i >= m; i--) {
                    goOnWith(rule, place, i, n);
                }
            }
            return row[n];
        }

        private void goOnWith(int rule, int place, int i, int n) {
            boolean small = now.grammar.symbolAt(rule, place) < FIRST_CAPITAL;
            long many = row[i];
            row[i] = 0;
            int behind = many == 0 ? 0 : chart.endsOf(rule, place, i, n);
            for (int j = i; j <= n && behind >> j != 0; j++) {
                if ((behind >> j & 1) != 0) {
                    long part = small ? 1 : howMany(chart.rulesBelow(rule, place, i, j), span(i, j));
                    row[j] = sum(row[j], product(many, part));
                }
            }
        }
    }

    /** How many pieces the smallest allowed tree of each rule has from m to n, and which it is. */
    private static final class Sizes {
        static final long NO_TREE = 1L << 60;

        final Setting now;
        final Chart chart;
        int columns;
        /** The piece that was sought last. */
        int rule;
        int from;
        int to;
        private final long[] least = new long[MOST_RULES * SPANS];
        /** Of each rule and place the fewest pieces of that symbol from m to n. */
        private final long[] parts = new long[SLOTS * SPANS];
        /** Of each point of a rule the fewest pieces of what is behind it, by its begin. */
        private final long[] rest = new long[POINTS * LEVELS];

        Sizes(Setting now, Chart chart) {
            this.now = now;
            this.chart = chart;
        }

        long wholeSize() {
            int first = leastOf(now.grammar.rulesOf[now.grammar.left[0] - FIRST_CAPITAL], 0, now.length);
            return first == NONE ? NO_TREE : least[first * SPANS + span(0, now.length)];
        }

        void fill() {
            chart.fill();
            for (int n = columns; n <= now.length; n++) {
                for (int m = n; m >= 0; m--) {
                    clear(m, n);
                    settle(m, n);
                }
            }
            columns = now.length + 1;
        }

        private void clear(int m, int n) {
            int here = span(m, n);
            for (int r = 0; r < now.grammar.rules; r++) {
                least[r * SPANS + here] = NO_TREE;
                for (int place = 0; place < now.grammar.size[r]; place++) {
                    boolean small = now.grammar.symbolAt(r, place) < FIRST_CAPITAL;
                    parts[(r * MOST_PLACES + place) * SPANS + here] =
                        small && chart.fits(r, place, m, n) ? 0 : NO_TREE;
                }
            }
        }

        private void settle(int m, int n) {
            int rules = chart.rulesAt(m, n);
            boolean changed = true;
            for (int round = 0; round < ROUNDS && changed; round++) {
                changed = false;
                for (int r = 0; r < now.grammar.rules; r++) {
                    changed |= (rules >> r & 1) != 0 && shrink(r, m, n);
                }
            }
        }

        private boolean shrink(int r, int m, int n) {
            findRest(r, m, n);
            long size = rest[m] + 1;
            int here = span(m, n);
            if (size >= least[r * SPANS + here]) {
                return false;
            }
            least[r * SPANS + here] = size;
            for (int above = 0; above < now.grammar.rules; above++) {
                for (int place = 0; place < now.grammar.size[above]; place++) {
                    int slot = (above * MOST_PLACES + place) * SPANS + here;
                    if (size < parts[slot] && chart.mayBeBelow(above, place, r)) {
                        parts[slot] = size;
                    }
                }
            }
            return true;
        }

        /** The first of these rules whose tree is smallest; NONE if they have none. */
        private int leastOf(int rules, int m, int n) {
            int best = NONE;
            long bestSize = NO_TREE;
            for (int r = 0; r < now.grammar.rules; r++) {
                if ((rules >> r & 1) != 0 && least[r * SPANS + span(m, n)] < bestSize) {
                    best = r;
                    bestSize = least[r * SPANS + span(m, n)];
                }
            }
            return best;
        }

        private void findRest(int r, int m, int n) {
            int size = now.grammar.size[r];
            for (int i = m; i <= n; i++) {
                rest[size * LEVELS + i] = i == n ? 0 : NO_TREE;
            }
            for (int place = size - 1; place >= 0; place--) {
                // Nothing but its begin can be asked of the first symbol.
                int last = place == 0 ? m : n;
                for (int i = m; i <= last; i++) {
                    rest[place * LEVELS + i] = restFrom(r, place, i, n);
                }
            }
        }

        private long restFrom(int r, int place, int i, int n) {
            long best = NO_TREE;
            int slot = (r * MOST_PLACES + place) * SPANS;
            int behind = chart.endsOf(r, place, i, n);
            for (int j = i; j <= n && behind >> j != 0; j++) {
                if ((behind >> j & 1) != 0) {
                    best = Math.min(best, rest[(place + 1) * LEVELS + j] + parts[slot + span(i, j)]);
                }
            }
            return best;
        }

        /** Goes down to the k-th piece of the smallest tree, past the trees that are ahead of it. */
        void seek(long k) {
            from = 0;
            to = now.length;
            rule = leastOf(now.grammar.rulesOf[now.grammar.left[0] - FIRST_CAPITAL], from, to);
            long left = k;
            // No rule comes twice on the way down with one span, so it is shorter than this.
            for (int depth = 0; depth < MOST_RULES * SPANS && left > 0 && rule != NONE; depth++) {
                left = goDown(left - 1);
            }
        }

        /** To the piece below that has the k-th of all pieces below: how many are ahead in there. */
        private long goDown(long k) {
            findRest(rule, from, to);
            long left = k;
            int begin = from;
            for (int place = 0; place < now.grammar.size[rule]; place++) {
                int end = firstEnd(place, begin);
                long size = parts[(rule * MOST_PLACES + place) * SPANS + span(begin, end)];
                if (left < size) {
                    rule = leastOf(chart.rulesBelow(rule, place, begin, end), begin, end);
                    from = begin;
                    to = end;
                    return left;
                }
                left -= size;
                begin = end;
            }
            return 0;
        }

        private int firstEnd(int place, int begin) {
            long fewest = rest[place * LEVELS + begin];
            int slot = (rule * MOST_PLACES + place) * SPANS;
            for (int end = begin; end < to; end++) {
                if (rest[(place + 1) * LEVELS + end] + parts[slot + span(begin, end)] == fewest) {
                    return end;
                }
            }
            return to;
        }
    }

    /** Pieces of allowed trees of the start for the whole text. */
    private static final class Forest {
        final Setting now;
        final Chart chart;
        boolean stand;
        boolean tallied;
        /** Of each span the rules that are pieces there, as bits. */
        final int[] pieces = new int[SPANS];
        int nodes;
        int ambiguous;
        int narrow;
        /** Ends of the symbols ahead of each point that can be reached from its begin. */
        private final int[] reachable = new int[POINTS];
        /** Places from which the symbols behind each point can reach its end. */
        private final int[] hopeful = new int[POINTS];

        Forest(Setting now, Chart chart) {
            this.now = now;
            this.chart = chart;
        }

        int howManyPieces() {
            int many = 0;
            for (int here = 0; here < span(0, now.length + 1); here++) {
                many += Integer.bitCount(pieces[here]);
            }
            return many;
        }

        /** From the longest spans to the shortest, as what is below a piece is never longer. */
        void find() {
            if (stand) {
                return;
            }
            chart.fill();
            Arrays.fill(pieces, 0);
            int start = now.grammar.left[0] - FIRST_CAPITAL;
            pieces[span(0, now.length)] = chart.rulesAt(0, now.length) & now.grammar.rulesOf[start];
            for (int length = now.length; length >= 0; length--) {
                for (int m = 0; m + length <= now.length; m++) {
                    spread(m, m + length);
                }
            }
            stand = true;
            tallied = false;
        }

        private void spread(int m, int n) {
            int spreadYet = 0;
            int before = NONE;
            for (int round = 0; round <= MOST_RULES && before != spreadYet; round++) {
                before = spreadYet;
                for (int rule = 0; rule < now.grammar.rules; rule++) {
                    if (((pieces[span(m, n)] & ~spreadYet) >> rule & 1) != 0) {
                        spreadYet |= 1 << rule;
                        markBelow(rule, m, n);
                    }
                }
            }
        }

        private void markBelow(int rule, int m, int n) {
            int size = now.grammar.size[rule];
            findHopeful(rule, m, n);
            reachable[0] = 1 << m;
            for (int place = 0; place < size; place++) {
                reachable[place + 1] = chart.endsBehind(rule, place, reachable[place], n);
                if (now.grammar.symbolAt(rule, place) >= FIRST_CAPITAL) {
                    markPart(rule, place, m, n);
                }
            }
        }

        private void findHopeful(int rule, int m, int n) {
            int size = now.grammar.size[rule];
            hopeful[size] = 1 << n;
            for (int place = size - 1; place >= 0; place--) {
                hopeful[place] = 0;
                for (int i = m; i <= n; i++) {
                    if ((chart.endsOf(rule, place, i, n) & hopeful[place + 1]) != 0) {
                        hopeful[place] |= 1 << i;
                    }
                }
            }
        }

        private void markPart(int rule, int place, int m, int n) {
            for (int i = m; i <= n; i++) {
                int behind = (reachable[place] >> i & 1) == 0
                    ? 0 : chart.endsOf(rule, place, i, n) & hopeful[place + 1];
                for (int j = i; j <= n && behind >> j != 0; j++) {
                    if ((behind >> j & 1) != 0) {
                        pieces[span(i, j)] |= chart.rulesBelow(rule, place, i, j);
                    }
                }
            }
        }

        void tally() {
            if (tallied) {
                return;
            }
            nodes = 0;
            ambiguous = 0;
            narrow = REFUSED;
            for (int length = 0; length <= now.length; length++) {
                for (int m = 0; m + length <= now.length; m++) {
                    tallySpan(m, m + length);
                }
            }
            tallied = true;
        }

        private void tallySpan(int m, int n) {
            int rules = pieces[span(m, n)];
            for (int capital = 0; capital < CAPITALS && rules != 0; capital++) {
                int own = rules & now.grammar.rulesOf[capital];
                if (own != 0) {
                    nodes++;
                    if (isAmbiguous(own, m, n)) {
                        ambiguous++;
                        narrow = narrow == REFUSED ? n - m : Math.min(narrow, n - m);
                    }
                }
            }
        }

        private boolean isAmbiguous(int rules, int m, int n) {
            int ways = 0;
            for (int rule = 0; rule < now.grammar.rules; rule++) {
                if ((rules >> rule & 1) != 0) {
                    ways += chart.howManyWays(rule, m, n);
                }
            }
            return ways > 1;
        }
    }

    /** The fewest letters to mend, so that a capital derives the text from m to n. */
    private static final class Mender {
        static final int NEVER = 1 << 28;

        final Setting now;
        int columns;
        private final int[] costs = new int[CAPITALS * SPANS];
        private final int[] row = new int[LEVELS];

        Mender(Setting now) {
            this.now = now;
        }

        void fill() {
            for (int n = columns; n <= now.length; n++) {
                for (int m = n; m >= 0; m--) {
                    settle(m, n);
                }
            }
            columns = now.length + 1;
        }

        int wholeCost() {
            return costs[(now.grammar.left[0] - FIRST_CAPITAL) * SPANS + span(0, now.length)];
        }

        private void settle(int m, int n) {
            int here = span(m, n);
            for (int capital = 0; capital < CAPITALS; capital++) {
                costs[capital * SPANS + here] = NEVER;
            }
            boolean changed = true;
            for (int round = 0; round < ROUNDS && changed; round++) {
                changed = false;
                for (int rule = 0; rule < now.grammar.rules; rule++) {
                    if (now.isTold(rule)) {
                        int slot = (now.grammar.left[rule] - FIRST_CAPITAL) * SPANS + here;
                        int cost = costOf(rule, m, n);
                        changed |= cost < costs[slot];
                        costs[slot] = Math.min(cost, costs[slot]);
                    }
                }
            }
        }

        private int costOf(int rule, int m, int n) {
            int size = now.grammar.size[rule];
            if (size == 0) {
                return n - m;
            }
            Arrays.fill(row, NEVER);
            row[m] = 0;
            for (int place = 0; place < size; place++) {
                int symbol = now.grammar.symbolAt(rule, place);
                for (int j = n; j >= m; j--) {
                    row[j] = costTo(symbol, m, j);
                }
            }
            return row[n];
        }

        private int costTo(int symbol, int m, int j) {
            int best = NEVER;
            for (int i = m; i <= j; i++) {
                if (row[i] < best) {
                    best = Math.min(best, row[i] + partCost(symbol, i, j));
                }
            }
            return best;
        }

        private int partCost(int symbol, int m, int n) {
            return symbol < FIRST_CAPITAL
                ? smallCost(symbol, m, n)
                : costs[(symbol - FIRST_CAPITAL) * SPANS + span(m, n)];
        }

        /** All letters but one are left out; that one stays, is changed, or, if there is none, put in. */
        private int smallCost(int small, int m, int n) {
            for (int place = m; place < n; place++) {
                if (now.letters[place] == small) {
                    return n - m - 1;
                }
            }
            return n == m ? 1 : n - m;
        }
    }

    /** Sentences that are drawn. */
    private static final class Speaker {
        final Setting now;
        final int[] row = new int[MOST_SPOKEN];
        int length;
        private long x;

        Speaker(Setting now) {
            this.now = now;
        }

        /** Whether the last of these sentences was not given up. */
        boolean speakTimes(int times) {
            x = now.x;
            boolean spokenOut = false;
            for (int time = 0; time < times; time++) {
                spokenOut = speak();
            }
            return spokenOut;
        }

        private int draw() {
            x = x * 1103515245L + 12345L & 2147483647L;
            return (int) (x >> 16);
        }

        private boolean speak() {
            row[0] = now.grammar.left[0];
            length = 1;
            for (int replaced = 0; replaced < MOST_REPLACED; replaced++) {
                int place = firstCapital();
                if (place == NONE) {
                    return true;
                }
                int rule = drawnRule(row[place]);
                if (rule == NONE || !replace(place, rule)) {
                    return false;
                }
            }
            return firstCapital() == NONE;
        }

        private int firstCapital() {
            for (int place = 0; place < length; place++) {
                if (row[place] >= FIRST_CAPITAL) {
                    return place;
                }
            }
            return NONE;
        }

        private int drawnRule(int capital) {
            int rules = now.grammar.rulesOf[capital - FIRST_CAPITAL] & now.toldRules();
            int many = Integer.bitCount(rules);
            if (many == 0) {
                return NONE;
            }
            int ahead = draw() % many;
            for (int rule = 0; rule < now.grammar.rules; rule++) {
                if ((rules >> rule & 1) != 0) {
                    if (ahead == 0) {
                        return rule;
                    }
                    ahead--;
                }
            }
            return NONE;
        }

        /** Whether the row is not too long with the right side in place of the capital. */
        private boolean replace(int place, int rule) {
            int size = now.grammar.size[rule];
            int longer = length - 1 + size;
            if (longer > MOST_SPOKEN) {
                return false;
            }
            System.arraycopy(row, place + 1, row, place + size, length - place - 1);
            for (int k = 0; k < size; k++) {
                row[place + k] = now.grammar.symbolAt(rule, k);
            }
            length = longer;
            return true;
        }
    }
}
