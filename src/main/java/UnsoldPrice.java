import java.util.NoSuchElementException;

/**
 * A market of sellers and buyers under a law: a board says the most that may be asked, led by
 * what was asked by those who did not sell out the day before, and free when all was sold.
 */
public final class UnsoldPrice {
    /** None; refused. */
    public static final int NONE = -1;
    /** Not told. */
    public static final int HIDDEN = -1000000;

    private static final int MAX_TAPE = 160;
    private static final int MAX_SELLERS = 5;
    /** The sellers, and a stranger behind them. */
    private static final int MAX_STANDS = 6;
    private static final int MAX_SORTS = 6;
    /** Who comes today, and who waits for the first, second and third day. */
    private static final int AGES = 4;
    private static final int MAX_RULES = 5;
    private static final int MAX_NESTING = 6;
    private static final int MAX_GOODS = 99;
    private static final int MAX_PRICE = 20;
    private static final int MAX_DAYS = 30;
    private static final int MAX_SEEN = 20;
    private static final int MAX_ASKINGS = 60;
    private static final int RING_DAYS = 60;
    private static final int BEST_DAYS = 3;
    private static final int ODDS_DAYS = 10;
    private static final int ALL_PARTS = 1000000000;
    private static final int REST_SELLERS = 3;
    /** All rows of askings of three sellers: 21 prices each. */
    private static final int REST_ROWS = 9261;

    private static final int NUMBER_LIMIT = 1000000;
    /** In the code of a rule numbers stand below this, then the letters, then the signs. */
    private static final int FIRST_LETTER = 10000;
    private static final int FIRST_SIGN = 20000;
    private static final String RULE_LETTERS = "pgcduw";

    private static final int SELLER_CLAUSE = 0;
    private static final int BUYER_CLAUSE = 1;
    private static final int LAW_CLAUSE = 2;
    /** The letters of all items: three of a seller, three of buyers, two of the law. */
    private static final String ITEM_LETTERS = "ncrvmwqf";
    private static final int[] FIRST_ITEM = {0, 3, 6, 8};
    private static final int[] ITEM_LOW = {0, 0, 0, 0, 1, 0, 0, 0};
    private static final int[] ITEM_HIGH = {9, 20, 9, 20, 9, 3, 2, 20};
    private static final int[] ITEM_USUAL = {3, 1, 0, 10, 2, 0, 0, 12};

    private final Tape tape;
    private final MarketReader marketReader;
    private final RuleReader ruleReader;
    private final Market market;
    private final Market marketDraft;
    private final Rule[] rules;
    private final Rule ruleDraft;
    private final State now;
    private final State kept;
    private final Runner runner;
    private final Walk walk;
    private final Search search;
    private final Notes seenBoards;
    private final Notes askings;
    private int ruleCount;
    private int feastRisk;
    private boolean hasImage;

    public UnsoldPrice() {
        Tape bytes = new Tape();
        Market clauses = new Market();
        Rule[] texts = new Rule[MAX_RULES];
        for (int k = 0; k < MAX_RULES; k++) {
            texts[k] = new Rule();
        }
        State state = new State();
        Runner days = new Runner(clauses, texts);
        tape = bytes;
        marketReader = new MarketReader(bytes);
        ruleReader = new RuleReader(bytes);
        market = clauses;
        marketDraft = new Market();
        rules = texts;
        ruleDraft = new Rule();
        now = state;
        kept = new State();
        runner = days;
        walk = new Walk(clauses, days, state);
        search = new Search(clauses, days, state);
        seenBoards = new Notes(MAX_SEEN);
        askings = new Notes(MAX_ASKINGS);
    }

    // ---- texts ----

    public int feed(int a, int b, int c, int d, int e) {
        int more = bytesIn(a) + bytesIn(b) + bytesIn(c) + bytesIn(d) + bytesIn(e);
        if (tape.length + more > MAX_TAPE) {
            return NONE;
        }
        tape.add(a);
        tape.add(b);
        tape.add(c);
        tape.add(d);
        tape.add(e);
        return tape.length;
    }

    public boolean end(int n) {
        if (n < 0 || n > tape.length) {
            return false;
        }
        tape.length = n;
        return true;
    }

    public int fault(int sort) {
        switch (sort) {
            case 0:
                return marketReader.read(marketDraft);
            case 1:
                return ruleReader.read(ruleDraft);
            default:
                return -2;
        }
    }

    public int text(int sort) {
        if (sort == 0 && marketReader.read(marketDraft) == NONE) {
            return openMarket();
        }
        if (sort == 1 && ruleCount < MAX_RULES && ruleReader.read(ruleDraft) == NONE) {
            return addRule();
        }
        return NONE;
    }

    // ---- what is told of the market, and what is set ----

    public int seller(int seller, int what) throws NoSuchElementException {
        if (!isSeller(seller) || noWhat(what, 9)) {
            throw new NoSuchElementException();
        }
        switch (what) {
            case 0:
                return market.brings[seller];
            case 1:
                return market.cost[seller];
            case 2:
                return market.rot[seller];
            case 3:
                return now.goods[seller];
            case 4:
                return now.left[seller];
            case 5:
                return now.gain[seller];
            case 6:
                return now.ruleOf[seller];
            case 7:
                return now.isHolding(seller) ? 1 : 0;
            case 8:
                return now.asked[seller];
            default:
                return now.sold[seller];
        }
    }

    public int buyers(int sort, int what) {
        if (!isSort(sort)) {
            return NONE;
        }
        switch (what) {
            case 0:
                return market.worth[sort];
            case 1:
                return market.many[sort];
            case 2:
                return market.waits[sort];
            case 3:
                return now.waiting(sort);
            default:
                return NONE;
        }
    }

    public boolean rule(int seller, int rule) {
        if (!isSeller(seller) || rule < NONE || rule >= ruleCount) {
            return false;
        }
        now.ruleOf[seller] = rule;
        return true;
    }

    public boolean hold(int seller, boolean is) {
        if (!isSeller(seller) || now.isHolding(seller) == is) {
            return false;
        }
        now.setHolding(seller, is);
        return true;
    }

    public boolean risk(int v) {
        if (v < 0 || v > 100) {
            return false;
        }
        feastRisk = v;
        return true;
    }

    public boolean seed(long v) {
        now.draws = v;
        return true;
    }

    // ---- days that go on ----

    public int days(int n) {
        if (noDays(n)) {
            return NONE;
        }
        runner.begin();
        for (int k = 0; k < n; k++) {
            boolean feast = feastRisk > 0 && now.draw() < feastRisk;
            runner.runDay(now, feast);
        }
        return now.board;
    }

    // ---- questions apart from the market ----

    public int ahead(int n) {
        if (noDays(n)) {
            return NONE;
        }
        walk.begin();
        walk.pass(n);
        return walk.at.board;
    }

    public int falls(int n, int what) {
        if (noDays(n) || noWhat(what, 1)) {
            return NONE;
        }
        walk.begin();
        walk.pass(n);
        return what == 0 ? walk.jumps : walk.fall;
    }

    public int ring(int what) {
        if (noMarket() || noWhat(what, 1) || !search.findRing()) {
            return NONE;
        }
        return what == 0 ? search.ringFrom : search.ringLength;
    }

    public int best(int seller, int n, int what) {
        if (!isSeller(seller) || n < 1 || n > BEST_DAYS || noWhat(what, 1)) {
            return HIDDEN;
        }
        search.findBest(seller, n);
        return what == 0 ? search.bestRow : search.bestGain;
    }

    public int rest(int i) {
        if (noMarket() || market.sellers > REST_SELLERS) {
            return HIDDEN;
        }
        if (i < NONE || i >= REST_ROWS) {
            return NONE;
        }
        int found = search.findRests(i);
        if (i == NONE) {
            return found;
        }
        return i < found ? search.restRow : NONE;
    }

    public int fool(int seller, int n, int what) {
        if (!isSeller(seller) || noDays(n) || noWhat(what, 1)) {
            return HIDDEN;
        }
        walk.beginHolding(seller, true);
        walk.pass(n);
        int ownHeld = walk.gainOf(seller);
        int othersHeld = walk.gainOfAll() - ownHeld;
        walk.beginHolding(seller, false);
        walk.pass(n);
        int own = walk.gainOf(seller);
        int others = walk.gainOfAll() - own;
        return what == 0 ? own - ownHeld : othersHeld - others;
    }

    public int up(int n, int price) {
        if (noDays(n) || noPrice(price)) {
            return NONE;
        }
        int best = NONE;
        int sets = 1 << market.sellers;
        for (int set = 0; set < sets; set++) {
            // Sets come rising, so of sets alike in size the first one stays.
            if (best != NONE && Integer.bitCount(set) >= Integer.bitCount(best)) {
                continue;
            }
            walk.begin();
            walk.at.holds = set;
            walk.pass(n);
            if (walk.at.board >= price) {
                best = set;
            }
        }
        return best;
    }

    public int when(int n, int what) {
        if (noDays(n) || noWhat(what, 1)) {
            return NONE;
        }
        walk.begin();
        walk.pass(n);
        return what == 0 ? walk.cheapestDay : walk.cheapest;
    }

    public int stranger(int goods, int ask, int what) {
        if (noMarket() || goods < 1 || goods > MAX_GOODS || noPrice(ask) || noWhat(what, 2)) {
            return HIDDEN;
        }
        int last = market.sellers;
        walk.begin();
        walk.pass(1);
        int alone = walk.gainOfAll();
        walk.begin();
        walk.addStranger(goods, ask);
        walk.pass(1);
        switch (what) {
            case 0:
                return walk.at.board;
            case 1:
                return walk.at.sold[last];
            default:
                return alone - walk.gainOfAll();
        }
    }

    public int see(int days, int board) {
        if (noDays(days) || noPrice(board) || !seenBoards.add(days, board, 0)) {
            return NONE;
        }
        return seenBoards.size;
    }

    public int fits(int i) {
        if (noMarket() || i < NONE) {
            return NONE;
        }
        int found = 0;
        int sets = 1 << market.sellers;
        for (int set = 0; set < sets; set++) {
            if (!isSeenBy(set)) {
                continue;
            }
            if (found == i) {
                return set;
            }
            found++;
        }
        return i == NONE ? found : NONE;
    }

    public int other(int law, int n, int what) {
        if (noDays(n) || noWhat(law, 2) || noWhat(what, 2)) {
            return HIDDEN;
        }
        walk.begin();
        runner.lead = law;
        walk.pass(n);
        switch (what) {
            case 0:
                return walk.gainOfAll();
            case 1:
                return walk.at.surplus - now.surplus;
            default:
                return walk.jumps;
        }
    }

    public int ask(int seller, int day, int v) {
        if (!isSeller(seller) || day < 0 || day >= MAX_DAYS || noPrice(v)
                || !askings.add(seller, day, v)) {
            return NONE;
        }
        return askings.size;
    }

    public int month(int n, int what) {
        if (noDays(n) || noWhat(what, 1)) {
            return NONE;
        }
        walk.begin();
        for (int day = 0; day < n; day++) {
            int breaker = tellAskings(day);
            if (breaker != NONE) {
                return what == 0 ? day : breaker;
            }
            walk.step();
        }
        return NONE;
    }

    public int inTurn(int n, int what) {
        if (noDays(n) || noWhat(what, 2)) {
            return HIDDEN;
        }
        walk.begin();
        int turn = 0;
        for (int day = 0; day < n; day++) {
            walk.at.holds = 1 << turn;
            walk.step();
            turn = turn + 1 < market.sellers ? turn + 1 : 0;
        }
        switch (what) {
            case 0:
                return walk.at.board;
            case 1:
                return walk.gainOfAll();
            default:
                return walk.leastGainer();
        }
    }

    public int bribe(int n, int what) {
        if (noDays(n) || noWhat(what, 1)) {
            return HIDDEN;
        }
        int who = NONE;
        int least = HIDDEN;
        for (int s = 0; s < market.sellers; s++) {
            if (now.isHolding(s)) {
                continue;
            }
            walk.beginHolding(s, true);
            walk.pass(n);
            int held = walk.gainOf(s);
            walk.beginHolding(s, false);
            walk.pass(n);
            int wage = walk.gainOf(s) - held;
            if (who == NONE || wage < least) {
                who = s;
                least = wage;
            }
        }
        return what == 0 ? who : least;
    }

    public int spread(int n, int what) {
        if (noDays(n) || noWhat(what, 1)) {
            return NONE;
        }
        walk.begin();
        walk.pass(n);
        return what == 0 ? walk.highest - walk.lowest : walk.sum;
    }

    public int served(int sort, int n, int what) {
        if (!isSort(sort) || noDays(n) || noWhat(what, 1)) {
            return NONE;
        }
        walk.begin();
        walk.pass(n);
        return what == 0 ? walk.at.bought[sort] - now.bought[sort]
                : walk.at.gone[sort] - now.gone[sort];
    }

    public int odds(int n, int price) {
        if (noMarket() || n < 1 || n > ODDS_DAYS || noPrice(price)) {
            return NONE;
        }
        return search.partsFrom(n, price, feastRisk);
    }

    public int lone(int seller, int what) {
        if (!isSeller(seller) || noWhat(what, 1)) {
            return NONE;
        }
        int best = NONE;
        int most = NONE;
        for (int asking = 0; asking <= now.board; asking++) {
            walk.begin();
            walk.at.holds = (1 << market.sellers) - 1;
            walk.at.setHolding(seller, false);
            runner.told[seller] = asking;
            walk.pass(1);
            int takes = walk.at.sold[seller] * asking;
            if (takes > most) {
                best = asking;
                most = takes;
            }
        }
        return what == 0 ? best : most;
    }

    public int glut(int n, int what) {
        if (noDays(n) || noWhat(what, 1)) {
            return NONE;
        }
        walk.begin();
        walk.pass(n);
        return what == 0 ? walk.gluts : walk.fullest();
    }

    // ---- images, counts ----

    public int image() {
        if (noMarket()) {
            return NONE;
        }
        kept.copyFrom(now);
        hasImage = true;
        return now.day;
    }

    public int back() {
        if (!hasImage) {
            return NONE;
        }
        now.copyFrom(kept);
        return now.day;
    }

    public int count(int what) {
        switch (what) {
            case 0:
                return market.sellers;
            case 1:
                return market.sorts;
            case 2:
                return ruleCount;
            case 3:
                return tape.length;
            case 4:
                return now.day;
            case 5:
                return now.board;
            case 6:
                return now.surplus;
            case 7:
                return seenBoards.size;
            case 8:
                return askings.size;
            case 9:
                return market.free;
            case 10:
                return market.lead;
            default:
                return HIDDEN;
        }
    }

    // ---- what the face leans on ----

    private boolean noMarket() {
        return market.sellers == 0;
    }

    private boolean noDays(int n) {
        return noMarket() || n < 1 || n > MAX_DAYS;
    }

    private static boolean noWhat(int what, int last) {
        return what < 0 || what > last;
    }

    private static boolean noPrice(int price) {
        return price < 0 || price > MAX_PRICE;
    }

    private boolean isSeller(int seller) {
        return seller >= 0 && seller < market.sellers;
    }

    private boolean isSort(int sort) {
        return sort >= 0 && sort < market.sorts;
    }

    private static int bytesIn(int word) {
        int found = 0;
        for (int shift = 24; shift >= 0; shift -= 8) {
            if ((word >> shift & 255) != 0) {
                found++;
            }
        }
        return found;
    }

    /** The text on the tape, known to be without fault, becomes the market. */
    private int openMarket() {
        marketReader.read(market);
        now.clear(market.free);
        seenBoards.size = 0;
        askings.size = 0;
        hasImage = false;
        tape.length = 0;
        return market.sellers;
    }

    /** The text on the tape, known to be without fault, becomes the next rule. */
    private int addRule() {
        int number = ruleCount;
        if (number >= rules.length || rules[number] == null) {
            return NONE;
        }
        ruleReader.read(rules[number]);
        ruleCount = number + 1;
        tape.length = 0;
        return number;
    }

    /** Whether all boards seen would be so if this set, and no others, held back. */
    private boolean isSeenBy(int set) {
        walk.begin();
        walk.at.holds = set;
        int last = 0;
        for (int k = 0; k < seenBoards.size; k++) {
            last = Math.max(last, seenBoards.first[k]);
        }
        for (int day = 1; day <= last; day++) {
            walk.step();
            for (int k = 0; k < seenBoards.size; k++) {
                if (seenBoards.first[k] == day && seenBoards.second[k] != walk.at.board) {
                    return false;
                }
            }
        }
        return true;
    }

    /** Lays down the askings told for a day; answers the lowest seller who asks more than the board. */
    private int tellAskings(int day) {
        for (int s = 0; s < market.sellers; s++) {
            runner.told[s] = NONE;
        }
        for (int k = 0; k < askings.size; k++) {
            int s = askings.first[k];
            if (askings.second[k] == day && isSeller(s)) {
                runner.told[s] = askings.third[k];
            }
        }
        for (int s = 0; s < market.sellers; s++) {
            if (runner.told[s] > walk.at.board) {
                return s;
            }
        }
        return NONE;
    }

    /** The bytes told so far. */
    private static final class Tape {
        final int[] bytes = new int[MAX_TAPE];
        int length;

        void add(int word) {
            for (int shift = 24; shift >= 0; shift -= 8) {
                int sign = word >> shift & 255;
                if (sign != 0 && length < bytes.length) {
                    bytes[length] = sign;
                    length++;
                }
            }
        }

        /** The byte at a place; NONE behind the last one. */
        int byteAt(int place) {
            return place >= 0 && place < length && place < bytes.length ? bytes[place] : NONE;
        }
    }

    /** Rows of up to three numbers that were told, in the order of their telling. */
    private static final class Notes {
        final int[] first;
        final int[] second;
        final int[] third;
        int size;

        Notes(int most) {
            int room = Math.max(0, most);
            first = new int[room];
            second = new int[room];
            third = new int[room];
        }

        boolean add(int a, int b, int c) {
            if (size >= first.length || size >= second.length || size >= third.length) {
                return false;
            }
            first[size] = a;
            second[size] = b;
            third[size] = c;
            size++;
            return true;
        }
    }

    /** What the readers of both kinds of texts share: a place on the tape, and where it is wrong. */
    private abstract static class Reader {
        final Tape tape;
        int place;
        int wrongAt;

        Reader(Tape tape) {
            this.tape = tape;
        }

        final void beginReading() {
            place = 0;
            wrongAt = NONE;
        }

        /** The next sign behind blanks, which are passed over; NONE at the end. */
        final int sign() {
            for (int k = 0; k < MAX_TAPE && tape.byteAt(place) == ' '; k++) {
                place++;
            }
            return tape.byteAt(place);
        }

        final boolean wrong() {
            wrongAt = place;
            return false;
        }

        final boolean take(int wanted) {
            if (sign() != wanted) {
                return wrong();
            }
            place++;
            return true;
        }

        /** A number of so many digits at most; NONE (and wrong) where none stands. */
        final int number(int digits) {
            int from = place;
            int value = 0;
            for (int k = 0; k <= digits; k++) {
                int digit = tape.byteAt(place) - '0';
                if (digit < 0 || digit > 9) {
                    break;
                }
                if (k == digits) {
                    wrongAt = place;
                    return NONE;
                }
                value = value * 10 + digit;
                place++;
            }
            if (place == from) {
                wrongAt = place;
                return NONE;
            }
            return value;
        }
    }

    /** Reads the tape as a market. */
    private static final class MarketReader extends Reader {
        private final int[] values = new int[8];
        private final boolean[] told = new boolean[8];

        MarketReader(Tape tape) {
            super(tape);
        }

        /** Reads into a market; answers its fault, NONE without one. */
        int read(Market target) {
            beginReading();
            target.clear();
            for (int k = 0; k <= MAX_TAPE; k++) {
                if (!clause(target)) {
                    return wrongAt;
                }
                if (sign() == NONE) {
                    return target.sellers > 0 && target.sorts > 0 ? NONE : place;
                }
                if (!take(';')) {
                    return wrongAt;
                }
            }
            return place;
        }

        private boolean clause(Market target) {
            int kind = kindOf(sign(), target);
            if (kind == NONE) {
                return wrong();
            }
            place++;
            if (!items(kind)) {
                return false;
            }
            switch (kind) {
                case SELLER_CLAUSE:
                    return target.addSeller(values[0], values[1], values[2]);
                case BUYER_CLAUSE:
                    return target.addSort(values[3], values[4], values[5]);
                default:
                    return target.setLaw(values[6], values[7]);
            }
        }

        /** The kind of clause that a letter begins; NONE if no more of these may stand. */
        private static int kindOf(int letter, Market target) {
            switch (letter) {
                case 's':
                    return target.sellers < MAX_SELLERS ? SELLER_CLAUSE : NONE;
                case 'b':
                    return target.sorts < MAX_SORTS ? BUYER_CLAUSE : NONE;
                case 'l':
                    return target.hasLaw ? NONE : LAW_CLAUSE;
                default:
                    return NONE;
            }
        }

        /** Reads items as long as their letters come; what else stands is the caller's to judge. */
        private boolean items(int kind) {
            for (int item = 0; item < ITEM_USUAL.length && item < values.length; item++) {
                values[item] = ITEM_USUAL[item];
                told[item] = false;
            }
            for (int k = 0; k < ITEM_LETTERS.length(); k++) {
                int item = itemOf(kind, sign());
                if (item == NONE) {
                    return true;
                }
                if (told[item]) {
                    return wrong();
                }
                place++;
                sign();
                int value = number(2);
                if (value == NONE) {
                    return false;
                }
                if (value < ITEM_LOW[item] || value > ITEM_HIGH[item]) {
                    wrongAt = place - 1;
                    return false;
                }
                values[item] = value;
                told[item] = true;
            }
            return true;
        }

        private static int itemOf(int kind, int letter) {
            if (kind < 0 || kind + 1 >= FIRST_ITEM.length) {
                return NONE;
            }
            int end = Math.min(FIRST_ITEM[kind + 1], ITEM_LETTERS.length());
            for (int item = FIRST_ITEM[kind]; item < end; item++) {
                if (ITEM_LETTERS.charAt(item) == letter) {
                    return item;
                }
            }
            return NONE;
        }
    }

    /** Reads the tape as a rule, and writes its code. */
    private static final class RuleReader extends Reader {
        private Rule target;

        RuleReader(Tape tape) {
            super(tape);
        }

        /** Reads into a rule; answers its fault, NONE without one. */
        int read(Rule rule) {
            beginReading();
            target = rule;
            rule.length = 0;
            for (int k = 0; k <= MAX_TAPE; k++) {
                if (!clause()) {
                    return wrongAt;
                }
                if (sign() == NONE) {
                    return NONE;
                }
                if (!take(';')) {
                    return wrongAt;
                }
            }
            return place;
        }

        private boolean put(int op) {
            return target != null && target.put(op);
        }

        private boolean clause() {
            if (!take('y') || !take(':')) {
                return false;
            }
            int first = sign();
            // Only behind a whole sum it shows whether this sum is the answer or begins a condition.
            boolean begun = first != '!' && first != '(';
            if (begun && !sum(0)) {
                return false;
            }
            if (begun && !isComparison(sign())) {
                return put(FIRST_SIGN + ';');
            }
            if (!condition(0, begun) || !take('?')) {
                return false;
            }
            put(FIRST_SIGN + '?');
            int hole = target == null ? NONE : target.length;
            put(0);
            if (!sum(0)) {
                return false;
            }
            put(FIRST_SIGN + ';');
            return target != null && target.setHole(hole);
        }

        /** Units with & and | between; begun: the first sum of the first unit was read already. */
        private boolean condition(int depth, boolean begun) {
            boolean and = false;
            boolean or = false;
            for (int k = 0; k < MAX_TAPE; k++) {
                if (!unit(depth, begun && k == 0)) {
                    return false;
                }
                if (and) {
                    put(FIRST_SIGN + '&');
                }
                int sign = sign();
                and = sign == '&';
                if (!and) {
                    if (or) {
                        put(FIRST_SIGN + '|');
                    }
                    if (sign != '|') {
                        return true;
                    }
                    or = true;
                }
                place++;
            }
            return wrong();
        }

        private boolean unit(int depth, boolean begun) {
            int sign = sign();
            if (!begun && (sign == '!' || sign == '(')) {
                if (depth >= MAX_NESTING) {
                    return wrong();
                }
                place++;
                if (sign == '(') {
                    return condition(depth + 1, false) && take(')');
                }
                return unit(depth + 1, false) && put(FIRST_SIGN + '!');
            }
            if (!begun && !sum(depth)) {
                return false;
            }
            int comparison = sign();
            if (!isComparison(comparison)) {
                return wrong();
            }
            place++;
            return sum(depth) && put(FIRST_SIGN + comparison);
        }

        private static boolean isComparison(int sign) {
            return sign == '=' || sign == '<' || sign == '>';
        }

        /** Atoms with * / and + - between; a sign is put down behind what it joins. */
        private boolean sum(int depth) {
            int times = NONE;
            int plus = NONE;
            for (int k = 0; k < MAX_TAPE; k++) {
                if (!atom(depth)) {
                    return false;
                }
                if (times != NONE) {
                    put(FIRST_SIGN + times);
                }
                int sign = sign();
                times = sign == '*' || sign == '/' ? sign : NONE;
                if (times == NONE) {
                    if (plus != NONE) {
                        put(FIRST_SIGN + plus);
                    }
                    if (sign != '+' && sign != '-') {
                        return true;
                    }
                    plus = sign;
                }
                place++;
            }
            return wrong();
        }

        private boolean atom(int depth) {
            int sign = sign();
            if (sign >= '0' && sign <= '9') {
                int value = number(4);
                return value != NONE && put(value);
            }
            if (sign == '[') {
                if (depth >= MAX_NESTING) {
                    return wrong();
                }
                place++;
                return sum(depth + 1) && take(']');
            }
            for (int k = 0; k < RULE_LETTERS.length(); k++) {
                if (RULE_LETTERS.charAt(k) == sign) {
                    place++;
                    return put(FIRST_LETTER + k);
                }
            }
            return wrong();
        }
    }

    /** A rule as code for a stack: numbers, letters, signs; ? passes over a clause that does not hold. */
    private static final class Rule {
        // A byte of the tape makes one step of code at most, but for ? and : that make two together.
        private final int[] code = new int[2 * MAX_TAPE];
        private final int[] stack = new int[MAX_TAPE];
        int length;

        boolean put(int op) {
            if (length >= code.length) {
                return false;
            }
            code[length] = op;
            length++;
            return true;
        }

        /** Has a ? go on here where its condition does not hold. */
        boolean setHole(int hole) {
            if (hole < 0 || hole >= code.length) {
                return false;
            }
            code[hole] = length;
            return true;
        }

        int worth(int[] letters) {
            int top = 0;
            for (int at = 0; at < length && at < code.length; at++) {
                int op = code[at];
                if (op < FIRST_SIGN) {
                    int letter = op - FIRST_LETTER;
                    if (top >= stack.length || letter >= letters.length) {
                        return 0;
                    }
                    stack[top] = letter < 0 ? op : letters[letter];
                    top++;
                    continue;
                }
                int sign = op - FIRST_SIGN;
                if (top < 1 || (top < 2 && isBetweenTwo(sign))) {
                    return 0;
                }
                if (sign == ';') {
                    return stack[top - 1];
                }
                if (sign == '!') {
                    stack[top - 1] = 1 - stack[top - 1];
                } else if (sign == '?') {
                    top--;
                    at++;
                    if (stack[top] == 0 && at < code.length) {
                        at = Math.max(at, code[at] - 1);
                    }
                } else {
                    top--;
                    stack[top - 1] = joined(sign, stack[top - 1], stack[top]);
                }
            }
            return 0;
        }

        private static boolean isBetweenTwo(int sign) {
            return sign != ';' && sign != '!' && sign != '?';
        }

        private static int joined(int sign, int a, int b) {
            long value;
            switch (sign) {
                case '+':
                    value = (long) a + b;
                    break;
                case '-':
                    value = (long) a - b;
                    break;
                case '*':
                    value = (long) a * b;
                    break;
                case '/':
                    value = b == 0 ? 0 : a / b;
                    break;
                case '=':
                    value = a == b ? 1 : 0;
                    break;
                case '<':
                    value = a < b ? 1 : 0;
                    break;
                case '>':
                    value = a > b ? 1 : 0;
                    break;
                case '&':
                    value = a & b;
                    break;
                default:
                    value = a | b;
                    break;
            }
            return (int) Math.max(-NUMBER_LIMIT, Math.min(NUMBER_LIMIT, value));
        }
    }

    /** A market as its text tells it. */
    private static final class Market {
        int sellers;
        int sorts;
        boolean hasLaw;
        int lead;
        int free;
        // A stranger behind the sellers brings nothing, pays nothing and has no rot.
        final int[] brings = new int[MAX_STANDS];
        final int[] cost = new int[MAX_STANDS];
        final int[] rot = new int[MAX_STANDS];
        final int[] worth = new int[MAX_SORTS];
        final int[] many = new int[MAX_SORTS];
        final int[] waits = new int[MAX_SORTS];
        /** The sorts by worth, the greatest first, of like ones the lower first. */
        final int[] byWorth = new int[MAX_SORTS];

        void clear() {
            sellers = 0;
            sorts = 0;
            hasLaw = false;
            lead = ITEM_USUAL[6];
            free = ITEM_USUAL[7];
            for (int k = 0; k < MAX_STANDS; k++) {
                brings[k] = 0;
                cost[k] = 0;
                rot[k] = 0;
            }
        }

        boolean addSeller(int newGoods, int price, int rots) {
            if (sellers >= MAX_SELLERS) {
                return false;
            }
            brings[sellers] = newGoods;
            cost[sellers] = price;
            rot[sellers] = rots;
            sellers++;
            return true;
        }

        boolean addSort(int value, int number, int daysMore) {
            if (sorts >= MAX_SORTS) {
                return false;
            }
            worth[sorts] = value;
            many[sorts] = number;
            waits[sorts] = daysMore;
            int k = sorts;
            for (; k > 0 && worth[byWorth[k - 1]] < value; k--) {
                byWorth[k] = byWorth[k - 1];
            }
            byWorth[k] = sorts;
            sorts++;
            return true;
        }

        boolean setLaw(int leads, int freePrice) {
            hasLaw = true;
            lead = leads;
            free = freePrice;
            return true;
        }
    }

    /** How a market stands between two days. */
    private static final class State {
        int board;
        int day;
        int surplus;
        /** Who holds back, as bits. */
        int holds;
        long draws;
        final int[] goods = new int[MAX_STANDS];
        final int[] left = new int[MAX_STANDS];
        final int[] gain = new int[MAX_STANDS];
        final int[] asked = new int[MAX_STANDS];
        final int[] sold = new int[MAX_STANDS];
        final int[] ruleOf = new int[MAX_STANDS];
        /** By sort and age how many wait; age 0 has none between two days. */
        final int[] waits = new int[MAX_SORTS * AGES];
        /** By sort how many bought, and how many went without, in all. */
        final int[] bought = new int[MAX_SORTS];
        final int[] gone = new int[MAX_SORTS];

        /** All as a market begins; draws go on. */
        void clear(int free) {
            board = free;
            day = 0;
            surplus = 0;
            holds = 0;
            for (int k = 0; k < MAX_STANDS; k++) {
                goods[k] = 0;
                left[k] = 0;
                gain[k] = 0;
                asked[k] = NONE;
                sold[k] = 0;
                ruleOf[k] = NONE;
            }
            for (int k = 0; k < waits.length; k++) {
                waits[k] = 0;
            }
            for (int k = 0; k < MAX_SORTS; k++) {
                bought[k] = 0;
                gone[k] = 0;
            }
        }

        void copyFrom(State from) {
            board = from.board;
            day = from.day;
            surplus = from.surplus;
            holds = from.holds;
            draws = from.draws;
            System.arraycopy(from.goods, 0, goods, 0, MAX_STANDS);
            System.arraycopy(from.left, 0, left, 0, MAX_STANDS);
            System.arraycopy(from.gain, 0, gain, 0, MAX_STANDS);
            System.arraycopy(from.asked, 0, asked, 0, MAX_STANDS);
            System.arraycopy(from.sold, 0, sold, 0, MAX_STANDS);
            System.arraycopy(from.ruleOf, 0, ruleOf, 0, MAX_STANDS);
            System.arraycopy(from.waits, 0, waits, 0, MAX_SORTS * AGES);
            System.arraycopy(from.bought, 0, bought, 0, MAX_SORTS);
            System.arraycopy(from.gone, 0, gone, 0, MAX_SORTS);
        }

        boolean isHolding(int stand) {
            return (holds >> stand & 1) != 0;
        }

        void setHolding(int stand, boolean is) {
            holds = is ? holds | 1 << stand : holds & ~(1 << stand);
        }

        int waiting(int sort) {
            int found = 0;
            for (int age = 1; age < AGES; age++) {
                int at = sort * AGES + age;
                if (at >= 0 && at < waits.length) {
                    found += waits[at];
                }
            }
            return found;
        }

        /** A draw of a hundred. */
        int draw() {
            draws = draws * 6364136223846793005L + 1442695040888963407L;
            return (int) ((draws >>> 33) % 100);
        }

        /** Whether the market begins its day alike in both. */
        boolean isLike(State that) {
            boolean like = board == that.board;
            for (int k = 0; k < MAX_SELLERS; k++) {
                like = like && goods[k] == that.goods[k] && left[k] == that.left[k];
            }
            for (int k = 0; k < waits.length && k < that.waits.length; k++) {
                like = like && waits[k] == that.waits[k];
            }
            return like;
        }
    }

    /** Lets one day pass in a state of the market. */
    private static final class Runner {
        private final Market market;
        private final Rule[] rules;
        /** Askings in place of rules; NONE: by its rule. */
        final int[] told = new int[MAX_STANDS];
        /** How many goods each had in the morning. */
        final int[] morning = new int[MAX_STANDS];
        /** The law that leads the board. */
        int lead;
        /** How many take part: the sellers, perhaps a stranger. */
        int stands;
        /** Whether the board became free on the day just passed. */
        boolean jumped;
        private final int[] line = new int[MAX_STANDS];
        private int lined;
        private final int[] unsold = new int[MAX_STANDS];
        private final int[] letters = new int[6];

        Runner(Market market, Rule[] rules) {
            this.market = market;
            this.rules = rules;
        }

        /** All as the market tells it, no askings told. */
        void begin() {
            stands = market.sellers;
            lead = market.lead;
            for (int k = 0; k < MAX_STANDS; k++) {
                told[k] = NONE;
            }
        }

        void runDay(State s, boolean feast) {
            int buyers = openDay(s, feast);
            setAskings(s, buyers);
            lineUp(s);
            sell(s);
            leadBoard(s);
            closeDay(s);
        }

        /** New goods and new buyers come; answers how many buyers there are in all. */
        int openDay(State s, boolean feast) {
            for (int k = 0; k < stands; k++) {
                int brought = Math.min(market.brings[k], MAX_GOODS - s.goods[k]);
                s.goods[k] += brought;
                s.gain[k] -= brought * market.cost[k];
                s.sold[k] = 0;
                morning[k] = s.goods[k];
            }
            int buyers = 0;
            for (int sort = 0; sort < market.sorts; sort++) {
                s.waits[sort * AGES] = feast ? 2 * market.many[sort] : market.many[sort];
                for (int age = 0; age < AGES; age++) {
                    buyers += s.waits[sort * AGES + age];
                }
            }
            return buyers;
        }

        private void setAskings(State s, int buyers) {
            letters[0] = s.board;
            letters[3] = s.day;
            letters[5] = buyers;
            for (int k = 0; k < stands; k++) {
                int number = s.ruleOf[k];
                if (told[k] != NONE) {
                    s.asked[k] = told[k];
                } else if (s.isHolding(k) || number < 0 || number >= rules.length
                        || rules[number] == null) {
                    s.asked[k] = s.board;
                } else {
                    letters[1] = s.goods[k];
                    letters[2] = market.cost[k];
                    letters[4] = s.left[k];
                    int worth = rules[number].worth(letters);
                    s.asked[k] = Math.max(0, Math.min(s.board, worth));
                }
            }
        }

        /** Who may sell stands in a line, the cheapest first, of several the lowest. */
        void lineUp(State s) {
            lined = 0;
            for (int stand = 0; stand < stands; stand++) {
                if (s.goods[stand] == 0 || s.isHolding(stand)) {
                    continue;
                }
                int k = lined;
                for (; k > 0 && s.asked[line[k - 1]] > s.asked[stand]; k--) {
                    line[k] = line[k - 1];
                }
                line[k] = stand;
                lined++;
            }
        }

        /** Buyers buy by their worth; of one sort those who came first. */
        void sell(State s) {
            for (int k = 0; k < market.sorts; k++) {
                int sort = market.byWorth[k];
                for (int age = AGES - 1; age >= 0; age--) {
                    int at = sort * AGES + age;
                    if (s.waits[at] > 0) {
                        s.waits[at] -= sellTo(s, sort, s.waits[at]);
                    }
                }
            }
        }

        /** So many buyers of a sort come to the line; answers how many of them buy. */
        private int sellTo(State s, int sort, int buyers) {
            int worth = market.worth[sort];
            int open = buyers;
            for (int k = 0; k < lined && open > 0; k++) {
                int stand = line[k];
                int price = s.asked[stand];
                if (price > worth) {
                    break;
                }
                int goods = Math.min(open, s.goods[stand]);
                s.goods[stand] -= goods;
                s.sold[stand] += goods;
                s.gain[stand] += goods * price;
                s.surplus += goods * (worth - price);
                open -= goods;
            }
            s.bought[sort] += buyers - open;
            return buyers - open;
        }

        /** The board is led by what those asked who have some left; free if there is none. */
        private void leadBoard(State s) {
            int found = 0;
            for (int stand = 0; stand < stands; stand++) {
                if (s.goods[stand] == 0) {
                    continue;
                }
                int k = found;
                for (; k > 0 && unsold[k - 1] > s.asked[stand]; k--) {
                    unsold[k] = unsold[k - 1];
                }
                unsold[k] = s.asked[stand];
                found++;
            }
            jumped = found == 0;
            if (jumped) {
                s.board = market.free;
                return;
            }
            switch (lead) {
                case 0:
                    s.board = unsold[0];
                    break;
                case 1:
                    s.board = unsold[found - 1];
                    break;
                default:
                    s.board = unsold[(found - 1) / 2];
                    break;
            }
        }

        /** The night: what rots is taken away, who may wait waits, all others go. */
        private void closeDay(State s) {
            for (int k = 0; k < stands; k++) {
                s.left[k] = s.goods[k];
                s.goods[k] -= Math.min(market.rot[k], s.goods[k]);
            }
            for (int sort = 0; sort < market.sorts; sort++) {
                int first = sort * AGES;
                for (int age = AGES - 1; age >= 0; age--) {
                    int still = s.waits[first + age];
                    s.waits[first + age] = 0;
                    if (age < market.waits[sort] && age + 1 < AGES) {
                        s.waits[first + age + 1] = still;
                    } else {
                        s.gone[sort] += still;
                    }
                }
            }
            s.day++;
        }
    }

    /** Days apart from the market, one behind another, and what is noted of them. */
    private static final class Walk {
        private final Market market;
        private final Runner runner;
        private final State start;
        final State at = new State();
        int jumps;
        int fall;
        /** The highest board since the last jump. */
        private int peak;
        int highest;
        int lowest;
        int sum;
        int gluts;
        int cheapestDay;
        int cheapest;
        private int daysGone;

        Walk(Market market, Runner runner, State start) {
            this.market = market;
            this.runner = runner;
            this.start = start;
        }

        /** From the market as it is. */
        void begin() {
            at.copyFrom(start);
            runner.begin();
            jumps = 0;
            fall = 0;
            peak = at.board;
            highest = at.board;
            lowest = at.board;
            sum = 0;
            gluts = 0;
            cheapestDay = NONE;
            cheapest = NONE;
            daysGone = 0;
        }

        /** From the market as it is, but one seller holds back, or does not. */
        void beginHolding(int seller, boolean is) {
            begin();
            at.setHolding(seller, is);
        }

        /** One more takes part: a stranger behind all sellers. */
        void addStranger(int goods, int asking) {
            int stand = market.sellers;
            if (stand >= MAX_STANDS) {
                return;
            }
            runner.stands = stand + 1;
            runner.told[stand] = asking;
            at.goods[stand] = goods;
        }

        void pass(int n) {
            for (int k = 0; k < n; k++) {
                step();
            }
        }

        void step() {
            runner.runDay(at, false);
            noteBoard();
            noteCheapest();
            noteGlut();
            daysGone++;
        }

        private void noteBoard() {
            int board = at.board;
            if (runner.jumped) {
                jumps++;
                peak = board;
            }
            fall = Math.max(fall, peak - board);
            peak = Math.max(peak, board);
            highest = Math.max(highest, board);
            lowest = Math.min(lowest, board);
            sum += board;
        }

        private void noteCheapest() {
            for (int s = 0; s < market.sellers; s++) {
                if (runner.morning[s] == 0 || at.isHolding(s)) {
                    continue;
                }
                if (cheapestDay == NONE || at.asked[s] < cheapest) {
                    cheapestDay = daysGone;
                    cheapest = at.asked[s];
                }
            }
        }

        private void noteGlut() {
            for (int s = 0; s < market.sellers; s++) {
                if (at.left[s] > market.brings[s]) {
                    gluts++;
                    return;
                }
            }
        }

        /** What a seller gained on these days. */
        int gainOf(int seller) {
            if (seller < 0 || seller >= MAX_STANDS) {
                return 0;
            }
            return at.gain[seller] - start.gain[seller];
        }

        /** What all sellers gained on these days; a stranger is none of them. */
        int gainOfAll() {
            int gains = 0;
            for (int s = 0; s < market.sellers; s++) {
                gains += gainOf(s);
            }
            return gains;
        }

        int leastGainer() {
            int who = 0;
            for (int s = 1; s < market.sellers; s++) {
                if (gainOf(s) < gainOf(who)) {
                    who = s;
                }
            }
            return who;
        }

        int fullest() {
            int who = 0;
            for (int s = 1; s < market.sellers; s++) {
                if (at.goods[s] > at.goods[who]) {
                    who = s;
                }
            }
            return who;
        }
    }

    /** The questions that look at many ways the days could go. */
    private static final class Search {
        private final Market market;
        private final Runner runner;
        private final State start;
        /** A state for each day of the longest way, the ring's. */
        private final State[] path = new State[RING_DAYS + 1];
        int ringFrom;
        int ringLength;
        private int seller;
        private int lastDay;
        int bestRow;
        int bestGain;
        private int price;
        private int risk;
        /** By seller and row of askings what it takes. */
        private final int[][] takes = new int[REST_SELLERS][REST_ROWS];
        int restRow;

        Search(Market market, Runner runner, State start) {
            this.market = market;
            this.runner = runner;
            this.start = start;
            for (int k = 0; k < path.length; k++) {
                path[k] = new State();
            }
        }

        private State begin() {
            runner.begin();
            State first = path[0];
            if (first != null) {
                first.copyFrom(start);
            }
            return first;
        }

        /** Lets the day behind a place of the path pass; answers the state then, null at the end. */
        private State next(int place, boolean feast) {
            if (place < 0 || place + 1 >= path.length) {
                return null;
            }
            State from = path[place];
            State to = path[place + 1];
            if (from == null || to == null) {
                return null;
            }
            to.copyFrom(from);
            runner.runDay(to, feast);
            return to;
        }

        /** Looks for the first day that is like one ahead of it. */
        boolean findRing() {
            begin();
            for (int day = 0; day < RING_DAYS; day++) {
                State then = next(day, false);
                for (int k = 0; k <= day && then != null; k++) {
                    if (path[k] != null && path[k].isLike(then)) {
                        ringFrom = k;
                        ringLength = day + 1 - k;
                        return true;
                    }
                }
            }
            return false;
        }

        void findBest(int who, int days) {
            State first = begin();
            seller = who;
            lastDay = days;
            bestRow = NONE;
            bestGain = 0;
            if (first != null) {
                first.setHolding(who, false);
                tryAskings(0, 0);
            }
        }

        /** Tries all askings from a day on. Rows come rising, so of several the least stays. */
        private void tryAskings(int day, int row) {
            if (day < 0 || day > BEST_DAYS || day >= path.length || path[day] == null
                    || seller < 0 || seller >= MAX_SELLERS) {
                return;
            }
            State here = path[day];
            if (day == lastDay) {
                int gain = here.gain[seller] - start.gain[seller];
                if (bestRow == NONE || gain > bestGain) {
                    bestRow = row;
                    bestGain = gain;
                }
                return;
            }
            for (int asking = 0; asking <= here.board; asking++) {
                runner.told[seller] = asking;
                next(day, false);
                tryAskings(day + 1, row * 100 + asking);
            }
        }

        /** How many parts have in the end a board of a price or more. */
        int partsFrom(int days, int wanted, int riskOfFeast) {
            begin();
            lastDay = days;
            price = wanted;
            risk = riskOfFeast;
            return split(0, ALL_PARTS);
        }

        private int split(int day, int parts) {
            if (parts == 0 || day < 0 || day > ODDS_DAYS || day >= path.length
                    || path[day] == null) {
                return 0;
            }
            if (day == lastDay) {
                return path[day].board >= price ? parts : 0;
            }
            int feasts = (int) ((long) parts * risk / 100);
            int found = 0;
            if (feasts > 0) {
                next(day, true);
                found = split(day + 1, feasts);
            }
            if (feasts < parts) {
                next(day, false);
                found += split(day + 1, parts - feasts);
            }
            return found;
        }

        /** How many rows of askings are at rest; the row that comes behind so many of them is kept. */
        int findRests(int wanted) {
            int prices = start.board + 1;
            int rows = 1;
            for (int s = 0; s < market.sellers && s < REST_SELLERS; s++) {
                rows *= prices;
            }
            rows = Math.min(rows, REST_ROWS);
            fillTakes(rows, prices);
            int found = 0;
            for (int row = 0; row < rows; row++) {
                if (!isAtRest(row, prices)) {
                    continue;
                }
                if (found == wanted) {
                    restRow = inHundreds(row, prices);
                }
                found++;
            }
            return found;
        }

        /** What each seller takes by each row; the first seller's asking is the row's highest digit. */
        private void fillTakes(int rows, int prices) {
            State open = begin();
            State trial = path[1];
            if (open == null || trial == null || prices < 1) {
                return;
            }
            runner.openDay(open, false);
            for (int row = 0; row < rows && row < REST_ROWS; row++) {
                trial.copyFrom(open);
                int digits = row;
                for (int s = Math.min(market.sellers, REST_SELLERS) - 1; s >= 0; s--) {
                    trial.asked[s] = digits % prices;
                    digits /= prices;
                }
                runner.lineUp(trial);
                runner.sell(trial);
                for (int s = 0; s < market.sellers && s < REST_SELLERS; s++) {
                    takes[s][row] = trial.sold[s] * trial.asked[s];
                }
            }
        }

        /** Whether who holds asks the board, and no other would take more by asking otherwise. */
        private boolean isAtRest(int row, int prices) {
            int weight = 1;
            for (int s = Math.min(market.sellers, REST_SELLERS) - 1; s >= 0; s--) {
                if (weight < 1 || prices < 1) {
                    return false;
                }
                int asking = row / weight % prices;
                if (start.isHolding(s) && asking != prices - 1) {
                    return false;
                }
                int without = row - asking * weight;
                for (int k = 0; k < prices && !start.isHolding(s); k++) {
                    int otherwise = without + k * weight;
                    if (row < REST_ROWS && otherwise >= 0 && otherwise < REST_ROWS
                            && takes[s][otherwise] > takes[s][row]) {
                        return false;
                    }
                }
                weight *= prices;
            }
            return true;
        }

        private int inHundreds(int row, int prices) {
            int value = 0;
            int weight = 1;
            int digits = row;
            for (int s = 0; s < market.sellers && s < REST_SELLERS && prices > 0; s++) {
                value += digits % prices * weight;
                digits /= prices;
                weight *= 100;
            }
            return value;
        }
    }
}
