import java.util.ArrayList;
import java.util.HashMap;
import java.util.List;
import java.util.Map;
import java.util.NoSuchElementException;
import java.util.regex.Matcher;
import java.util.regex.Pattern;

/**
 * The document once more, told as plainly as can be: every buyer an object, every question a
 * search through copies of the whole market. Slow, and written apart from the class, so that the
 * two can be held against each other.
 */
final class Reference {
    static final int NONE = -1;
    static final int HIDDEN = -1000000;

    static final class Seller {
        int brings = 3;
        int cost = 1;
        int rot = 0;
        int goods;
        int left;
        int gain;
        int rule = NONE;
        int asked = NONE;
        int sold;
        boolean holds;

        Seller copy() {
            Seller s = new Seller();
            s.brings = brings;
            s.cost = cost;
            s.rot = rot;
            s.goods = goods;
            s.left = left;
            s.gain = gain;
            s.rule = rule;
            s.asked = asked;
            s.sold = sold;
            s.holds = holds;
            return s;
        }
    }

    static final class Sort {
        int worth = 10;
        int many = 2;
        int waits = 0;
    }

    static final class Buyer {
        final int sort;
        final int daysMore;

        Buyer(int sort, int daysMore) {
            this.sort = sort;
            this.daysMore = daysMore;
        }
    }

    /** A market with all that goes on in it. */
    final class World {
        final List<Seller> sellers = new ArrayList<>();
        final List<Sort> sorts = new ArrayList<>();
        /** Who waits, in the order of coming. */
        List<Buyer> waiting = new ArrayList<>();
        int free = 12;
        int lead = 0;
        int board;
        int day;
        int surplus;
        int jumps;
        boolean jumped;
        int[] bought = new int[6];
        int[] gone = new int[6];
        /** The least asked on the day just passed; NONE if nobody could sell. */
        int cheapest;
        boolean glutted;

        World copy() {
            World w = new World();
            for (Seller s : sellers) {
                w.sellers.add(s.copy());
            }
            w.sorts.addAll(sorts);
            w.waiting = new ArrayList<>(waiting);
            w.free = free;
            w.lead = lead;
            w.board = board;
            w.day = day;
            w.surplus = surplus;
            w.bought = bought.clone();
            w.gone = gone.clone();
            return w;
        }

        World holding(int set) {
            for (int k = 0; k < sellers.size(); k++) {
                sellers.get(k).holds = (set >> k & 1) == 1;
            }
            return this;
        }

        World pass(int n) {
            for (int k = 0; k < n; k++) {
                day(false, new HashMap<>());
            }
            return this;
        }

        void day(boolean feast, Map<Integer, Integer> told) {
            List<Seller> hadGoods = new ArrayList<>();
            for (Seller s : sellers) {
                s.sold = 0;
                for (int k = 0; k < s.brings && s.goods < 99; k++) {
                    s.goods++;
                    s.gain -= s.cost;
                }
                if (s.goods > 0) {
                    hadGoods.add(s);
                }
            }
            List<Buyer> here = new ArrayList<>(waiting);
            for (int sort = 0; sort < sorts.size(); sort++) {
                int come = sorts.get(sort).many * (feast ? 2 : 1);
                for (int k = 0; k < come; k++) {
                    here.add(new Buyer(sort, sorts.get(sort).waits));
                }
            }
            for (int k = 0; k < sellers.size(); k++) {
                Seller s = sellers.get(k);
                if (told.containsKey(k)) {
                    s.asked = told.get(k);
                } else if (s.holds || s.rule == NONE) {
                    s.asked = board;
                } else {
                    Map<Character, Integer> letters = new HashMap<>();
                    letters.put('p', board);
                    letters.put('g', s.goods);
                    letters.put('c', s.cost);
                    letters.put('d', day);
                    letters.put('u', s.left);
                    letters.put('w', here.size());
                    long worth = RuleWorth.of(rules.get(s.rule), letters);
                    s.asked = (int) (worth < 0 ? 0 : worth > board ? board : worth);
                }
            }
            cheapest = NONE;
            for (Seller s : hadGoods) {
                if (!s.holds && (cheapest == NONE || s.asked < cheapest)) {
                    cheapest = s.asked;
                }
            }
            sell(here);
            List<Integer> unsold = new ArrayList<>();
            for (Seller s : hadGoods) {
                if (s.goods > 0) {
                    unsold.add(s.asked);
                }
            }
            unsold.sort(null);
            jumped = unsold.isEmpty();
            if (jumped) {
                jumps++;
                board = free;
            } else {
                int last = unsold.size() - 1;
                board = unsold.get(lead == 0 ? 0 : lead == 1 ? last : last / 2);
            }
            glutted = false;
            for (Seller s : sellers) {
                s.left = s.goods;
                glutted |= s.left > s.brings;
                for (int k = 0; k < s.rot && s.goods > 0; k++) {
                    s.goods--;
                }
            }
            day++;
        }

        private void sell(List<Buyer> here) {
            List<Buyer> inTurn = new ArrayList<>(here);
            // A stable sort: of one sort those who came first stay first.
            inTurn.sort((a, b) -> {
                int byWorth = sorts.get(b.sort).worth - sorts.get(a.sort).worth;
                return byWorth != 0 ? byWorth : a.sort - b.sort;
            });
            List<Buyer> without = new ArrayList<>();
            for (Buyer b : inTurn) {
                Seller cheapestSeller = null;
                for (Seller s : sellers) {
                    if (s.goods > 0 && !s.holds
                            && (cheapestSeller == null || s.asked < cheapestSeller.asked)) {
                        cheapestSeller = s;
                    }
                }
                int worth = sorts.get(b.sort).worth;
                if (cheapestSeller != null && cheapestSeller.asked <= worth) {
                    cheapestSeller.goods--;
                    cheapestSeller.sold++;
                    cheapestSeller.gain += cheapestSeller.asked;
                    surplus += worth - cheapestSeller.asked;
                    bought[b.sort]++;
                } else {
                    without.add(b);
                }
            }
            waiting = new ArrayList<>();
            for (Buyer b : here) {
                if (without.contains(b)) {
                    if (b.daysMore > 0) {
                        waiting.add(new Buyer(b.sort, b.daysMore - 1));
                    } else {
                        gone[b.sort]++;
                    }
                }
            }
        }

        int gains() {
            int all = 0;
            for (Seller s : sellers) {
                all += s.gain;
            }
            return all;
        }

        int waitingOf(int sort) {
            int all = 0;
            for (Buyer b : waiting) {
                if (b.sort == sort) {
                    all++;
                }
            }
            return all;
        }

        String print() {
            StringBuilder b = new StringBuilder();
            b.append(board);
            for (Seller s : sellers) {
                b.append(" s").append(s.goods).append(',').append(s.left);
            }
            int[] count = new int[24];
            for (Buyer x : waiting) {
                count[x.sort * 4 + x.daysMore]++;
            }
            for (int c : count) {
                b.append(' ').append(c);
            }
            return b.toString();
        }
    }

    String tape = "";
    World world;
    World kept;
    long keptDraws;
    final List<String> rules = new ArrayList<>();
    int risk;
    long draws;
    final List<int[]> seen = new ArrayList<>();
    final List<int[]> askings = new ArrayList<>();

    // ---- texts ----

    int feed(int a, int b, int c, int d, int e) {
        StringBuilder more = new StringBuilder(tape);
        for (int word : new int[] {a, b, c, d, e}) {
            for (int k = 3; k >= 0; k--) {
                char sign = (char) (word >>> 8 * k & 255);
                if (sign != 0) {
                    more.append(sign);
                }
            }
        }
        if (more.length() > 160) {
            return NONE;
        }
        tape = more.toString();
        return tape.length();
    }

    boolean end(int n) {
        if (n < 0 || n > tape.length()) {
            return false;
        }
        tape = tape.substring(0, n);
        return true;
    }

    int fault(int sort) {
        return sort == 0 ? MarketFault.of(tape) : sort == 1 ? RuleFault.of(tape) : -2;
    }

    int text(int sort) {
        if (sort < 0 || sort > 1 || fault(sort) != NONE || sort == 1 && rules.size() == 5) {
            return NONE;
        }
        String plain = tape.replace(" ", "");
        tape = "";
        if (sort == 1) {
            rules.add(plain);
            return rules.size() - 1;
        }
        world = new World();
        Pattern item = Pattern.compile("([a-z])([0-9]+)");
        for (String clause : plain.split(";")) {
            Map<String, Integer> told = new HashMap<>();
            Matcher m = item.matcher(clause.substring(1));
            while (m.find()) {
                told.put(m.group(1), Integer.valueOf(m.group(2)));
            }
            if (clause.charAt(0) == 's') {
                Seller s = new Seller();
                s.brings = told.getOrDefault("n", s.brings);
                s.cost = told.getOrDefault("c", s.cost);
                s.rot = told.getOrDefault("r", s.rot);
                world.sellers.add(s);
            } else if (clause.charAt(0) == 'b') {
                Sort s = new Sort();
                s.worth = told.getOrDefault("v", s.worth);
                s.many = told.getOrDefault("m", s.many);
                s.waits = told.getOrDefault("w", s.waits);
                world.sorts.add(s);
            } else {
                world.lead = told.getOrDefault("q", world.lead);
                world.free = told.getOrDefault("f", world.free);
            }
        }
        world.board = world.free;
        kept = null;
        seen.clear();
        askings.clear();
        return world.sellers.size();
    }

    // ---- the market ----

    boolean isSeller(int s) {
        return world != null && s >= 0 && s < world.sellers.size();
    }

    boolean isSort(int s) {
        return world != null && s >= 0 && s < world.sorts.size();
    }

    boolean noDays(int n) {
        return world == null || n < 1 || n > 30;
    }

    static boolean out(int v, int low, int high) {
        return v < low || v > high;
    }

    int seller(int seller, int what) {
        if (!isSeller(seller) || out(what, 0, 9)) {
            throw new NoSuchElementException();
        }
        Seller s = world.sellers.get(seller);
        return new int[] {s.brings, s.cost, s.rot, s.goods, s.left, s.gain, s.rule,
            s.holds ? 1 : 0, s.asked, s.sold}[what];
    }

    int buyers(int sort, int what) {
        if (!isSort(sort) || out(what, 0, 3)) {
            return NONE;
        }
        Sort s = world.sorts.get(sort);
        return new int[] {s.worth, s.many, s.waits, world.waitingOf(sort)}[what];
    }

    boolean rule(int seller, int rule) {
        if (!isSeller(seller) || out(rule, -1, rules.size() - 1)) {
            return false;
        }
        world.sellers.get(seller).rule = rule;
        return true;
    }

    boolean hold(int seller, boolean is) {
        if (!isSeller(seller) || world.sellers.get(seller).holds == is) {
            return false;
        }
        world.sellers.get(seller).holds = is;
        return true;
    }

    boolean risk(int v) {
        if (out(v, 0, 100)) {
            return false;
        }
        risk = v;
        return true;
    }

    boolean seed(long v) {
        draws = v;
        return true;
    }

    int days(int n) {
        if (noDays(n)) {
            return NONE;
        }
        for (int k = 0; k < n; k++) {
            boolean feast = false;
            if (risk > 0) {
                draws = draws * 6364136223846793005L + 1442695040888963407L;
                feast = Long.remainderUnsigned(draws >>> 33, 100) < risk;
            }
            world.day(feast, new HashMap<>());
        }
        return world.board;
    }

    // ---- questions ----

    int ahead(int n) {
        return noDays(n) ? NONE : world.copy().pass(n).board;
    }

    int falls(int n, int what) {
        if (noDays(n) || out(what, 0, 1)) {
            return NONE;
        }
        World w = world.copy();
        List<Integer> boards = new ArrayList<>();
        List<Integer> jumpsUpTo = new ArrayList<>();
        boards.add(w.board);
        jumpsUpTo.add(0);
        for (int k = 0; k < n; k++) {
            w.pass(1);
            boards.add(w.board);
            jumpsUpTo.add(w.jumps);
        }
        int most = 0;
        for (int i = 0; i <= n; i++) {
            for (int j = i; j <= n; j++) {
                if (jumpsUpTo.get(i).equals(jumpsUpTo.get(j))) {
                    most = Math.max(most, boards.get(i) - boards.get(j));
                }
            }
        }
        return what == 0 ? w.jumps : most;
    }

    int ring(int what) {
        if (world == null || out(what, 0, 1)) {
            return NONE;
        }
        World w = world.copy();
        List<String> prints = new ArrayList<>();
        for (int k = 0; k <= 60; k++) {
            int at = prints.indexOf(w.print());
            if (at >= 0) {
                return what == 0 ? at : k - at;
            }
            prints.add(w.print());
            w.pass(1);
        }
        return NONE;
    }

    int best(int seller, int n, int what) {
        if (!isSeller(seller) || out(n, 1, 3) || out(what, 0, 1)) {
            return HIDDEN;
        }
        World w = world.copy();
        w.sellers.get(seller).holds = false;
        int[] best = bestFrom(w, seller, n);
        return what == 0 ? best[0] : best[1] - world.sellers.get(seller).gain;
    }

    private int[] bestFrom(World w, int seller, int n) {
        if (n == 0) {
            return new int[] {0, w.sellers.get(seller).gain};
        }
        int[] best = null;
        for (int asking = w.board; asking >= 0; asking--) {
            World v = w.copy();
            v.day(false, Map.of(seller, asking));
            int[] later = bestFrom(v, seller, n - 1);
            if (best == null || later[1] >= best[1]) {
                int place = n == 3 ? 10000 : n == 2 ? 100 : 1;
                best = new int[] {asking * place + later[0], later[1]};
            }
        }
        return best;
    }

    private int takes(int seller, Map<Integer, Integer> row) {
        World w = world.copy();
        w.day(false, row);
        return w.sellers.get(seller).sold * row.get(seller);
    }

    List<Integer> rests() {
        List<Integer> all = new ArrayList<>();
        int sellers = world.sellers.size();
        Map<String, Integer> known = new HashMap<>();
        for (int code = 0; code < Math.pow(100, sellers); code++) {
            Map<Integer, Integer> row = new HashMap<>();
            int digits = code;
            boolean fine = true;
            for (int s = sellers - 1; s >= 0; s--) {
                row.put(s, digits % 100);
                fine &= digits % 100 <= world.board;
                fine &= !world.sellers.get(s).holds || digits % 100 == world.board;
                digits /= 100;
            }
            for (int s = 0; s < sellers && fine; s++) {
                if (world.sellers.get(s).holds) {
                    continue;
                }
                int now = takesKnown(known, s, row);
                for (int other = 0; other <= world.board && fine; other++) {
                    Map<Integer, Integer> changed = new HashMap<>(row);
                    changed.put(s, other);
                    fine = takesKnown(known, s, changed) <= now;
                }
            }
            if (fine) {
                all.add(code);
            }
        }
        return all;
    }

    private int takesKnown(Map<String, Integer> known, int seller, Map<Integer, Integer> row) {
        String key = seller + ":" + row;
        Integer value = known.get(key);
        if (value == null) {
            value = takes(seller, row);
            known.put(key, value);
        }
        return value;
    }

    int rest(int i) {
        if (world == null || world.sellers.size() > 3) {
            return HIDDEN;
        }
        List<Integer> all = rests();
        if (i == NONE) {
            return all.size();
        }
        return out(i, 0, all.size() - 1) ? NONE : all.get(i);
    }

    private int[] gainsHolding(int seller, int n, boolean is) {
        World w = world.copy();
        w.sellers.get(seller).holds = is;
        w.pass(n);
        int own = w.sellers.get(seller).gain;
        return new int[] {own, w.gains() - own};
    }

    int fool(int seller, int n, int what) {
        if (!isSeller(seller) || noDays(n) || out(what, 0, 1)) {
            return HIDDEN;
        }
        int[] held = gainsHolding(seller, n, true);
        int[] not = gainsHolding(seller, n, false);
        return what == 0 ? not[0] - held[0] : held[1] - not[1];
    }

    int up(int n, int price) {
        if (noDays(n) || out(price, 0, 20)) {
            return NONE;
        }
        int sellers = world.sellers.size();
        for (int size = 0; size <= sellers; size++) {
            for (int set = 0; set < 1 << sellers; set++) {
                if (Integer.bitCount(set) == size
                        && world.copy().holding(set).pass(n).board >= price) {
                    return set;
                }
            }
        }
        return NONE;
    }

    int when(int n, int what) {
        if (noDays(n) || out(what, 0, 1)) {
            return NONE;
        }
        World w = world.copy();
        int day = NONE;
        int least = NONE;
        for (int k = 0; k < n; k++) {
            w.pass(1);
            if (w.cheapest != NONE && (day == NONE || w.cheapest < least)) {
                day = k;
                least = w.cheapest;
            }
        }
        return what == 0 ? day : least;
    }

    int stranger(int goods, int ask, int what) {
        if (world == null || out(goods, 1, 99) || out(ask, 0, 20) || out(what, 0, 2)) {
            return HIDDEN;
        }
        World without = world.copy().pass(1);
        World with = world.copy();
        int last = with.sellers.size();
        Seller s = new Seller();
        s.brings = 0;
        s.goods = goods;
        with.sellers.add(s);
        with.day(false, Map.of(last, ask));
        int others = with.gains() - s.gain;
        return what == 0 ? with.board : what == 1 ? s.sold : without.gains() - others;
    }

    int see(int days, int board) {
        if (noDays(days) || out(board, 0, 20) || seen.size() == 20) {
            return NONE;
        }
        seen.add(new int[] {days, board});
        return seen.size();
    }

    int fits(int i) {
        if (world == null) {
            return NONE;
        }
        List<Integer> sets = new ArrayList<>();
        for (int set = 0; set < 1 << world.sellers.size(); set++) {
            boolean fine = true;
            for (int[] s : seen) {
                fine &= world.copy().holding(set).pass(s[0]).board == s[1];
            }
            if (fine) {
                sets.add(set);
            }
        }
        if (i == NONE) {
            return sets.size();
        }
        return out(i, 0, sets.size() - 1) ? NONE : sets.get(i);
    }

    int other(int law, int n, int what) {
        if (noDays(n) || out(law, 0, 2) || out(what, 0, 2)) {
            return HIDDEN;
        }
        World w = world.copy();
        w.lead = law;
        w.pass(n);
        return what == 0 ? w.gains() - world.gains() : what == 1 ? w.surplus - world.surplus : w.jumps;
    }

    int ask(int seller, int day, int v) {
        if (!isSeller(seller) || out(day, 0, 29) || out(v, 0, 20) || askings.size() == 60) {
            return NONE;
        }
        askings.add(new int[] {seller, day, v});
        return askings.size();
    }

    int month(int n, int what) {
        if (noDays(n) || out(what, 0, 1)) {
            return NONE;
        }
        World w = world.copy();
        for (int k = 0; k < n; k++) {
            Map<Integer, Integer> told = new HashMap<>();
            for (int[] a : askings) {
                if (a[1] == k) {
                    told.put(a[0], a[2]);
                }
            }
            int board = w.board;
            w.day(false, told);
            for (int s = 0; s < w.sellers.size(); s++) {
                if (w.sellers.get(s).asked > board) {
                    return what == 0 ? k : s;
                }
            }
        }
        return NONE;
    }

    int inTurn(int n, int what) {
        if (noDays(n) || out(what, 0, 2)) {
            return HIDDEN;
        }
        World w = world.copy();
        for (int k = 0; k < n; k++) {
            w.holding(1 << k % w.sellers.size()).pass(1);
        }
        if (what < 2) {
            return what == 0 ? w.board : w.gains() - world.gains();
        }
        int who = 0;
        for (int s = 0; s < w.sellers.size(); s++) {
            int gain = w.sellers.get(s).gain - world.sellers.get(s).gain;
            if (gain < w.sellers.get(who).gain - world.sellers.get(who).gain) {
                who = s;
            }
        }
        return who;
    }

    int bribe(int n, int what) {
        if (noDays(n) || out(what, 0, 1)) {
            return HIDDEN;
        }
        int who = NONE;
        for (int s = 0; s < world.sellers.size(); s++) {
            if (!world.sellers.get(s).holds
                    && (who == NONE || fool(s, n, 0) < fool(who, n, 0))) {
                who = s;
            }
        }
        return what == 0 ? who : who == NONE ? HIDDEN : fool(who, n, 0);
    }

    int spread(int n, int what) {
        if (noDays(n) || out(what, 0, 1)) {
            return NONE;
        }
        int most = world.board;
        int least = world.board;
        int sum = 0;
        for (int k = 1; k <= n; k++) {
            int board = ahead(k);
            most = Math.max(most, board);
            least = Math.min(least, board);
            sum += board;
        }
        return what == 0 ? most - least : sum;
    }

    int served(int sort, int n, int what) {
        if (noDays(n) || !isSort(sort) || out(what, 0, 1)) {
            return NONE;
        }
        World w = world.copy().pass(n);
        return what == 0 ? w.bought[sort] - world.bought[sort] : w.gone[sort] - world.gone[sort];
    }

    int odds(int n, int price) {
        if (world == null || out(n, 1, 10) || out(price, 0, 20)) {
            return NONE;
        }
        return (int) parts(world.copy(), n, price, 1000000000L);
    }

    private long parts(World w, int n, int price, long all) {
        if (n == 0) {
            return w.board >= price ? all : 0;
        }
        World feast = w.copy();
        World none = w.copy();
        feast.day(true, new HashMap<>());
        none.day(false, new HashMap<>());
        long feasts = all * risk / 100;
        return parts(feast, n - 1, price, feasts) + parts(none, n - 1, price, all - feasts);
    }

    int lone(int seller, int what) {
        if (!isSeller(seller) || out(what, 0, 1)) {
            return NONE;
        }
        int best = NONE;
        int most = NONE;
        for (int asking = 0; asking <= world.board; asking++) {
            World w = world.copy().holding(~(1 << seller));
            w.day(false, Map.of(seller, asking));
            int takes = w.sellers.get(seller).sold * asking;
            if (takes > most) {
                best = asking;
                most = takes;
            }
        }
        return what == 0 ? best : most;
    }

    int glut(int n, int what) {
        if (noDays(n) || out(what, 0, 1)) {
            return NONE;
        }
        World w = world.copy();
        int days = 0;
        for (int k = 0; k < n; k++) {
            w.pass(1);
            days += w.glutted ? 1 : 0;
        }
        int who = 0;
        for (int s = 0; s < w.sellers.size(); s++) {
            if (w.sellers.get(s).goods > w.sellers.get(who).goods) {
                who = s;
            }
        }
        return what == 0 ? days : who;
    }

    int image() {
        if (world == null) {
            return NONE;
        }
        kept = world.copy();
        keptDraws = draws;
        return kept.day;
    }

    int back() {
        if (kept == null) {
            return NONE;
        }
        world = kept.copy();
        draws = keptDraws;
        return world.day;
    }

    int count(int what) {
        if (out(what, 0, 10)) {
            return HIDDEN;
        }
        boolean none = world == null;
        return new int[] {none ? 0 : world.sellers.size(), none ? 0 : world.sorts.size(),
            rules.size(), tape.length(), none ? 0 : world.day, none ? 0 : world.board,
            none ? 0 : world.surplus, seen.size(), askings.size(), none ? 0 : world.free,
            none ? 0 : world.lead}[what];
    }
}
