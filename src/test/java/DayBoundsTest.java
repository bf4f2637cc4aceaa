import java.math.BigInteger;

/** Each sentence of the document that bounds the days and what they hold: its edges on either side. */
public final class DayBoundsTest {
    private static final int NONE = UnsoldPrice.NONE;
    private static final BigInteger ROUND = BigInteger.ONE.shiftLeft(64);

    private DayBoundsTest() {
    }

    public static void main(String[] args) {
        boardIsFreeAtFirst();
        ninetyNineGoods();
        ninetyNineOfTheStranger();
        twiceAsManyOnFeasts();
        askedWithinTheBoard();
        boardOfZero();
        whoHoldsSellsNothing();
        noMoreThanTheWorth();
        likeOnesTheLower();
        waitsAndGoes();
        firstWhoCameFirst();
        noUnsoldIsFree();
        goodsInTheMorning();
        middleOfHowMany();
        rotAsFarAsThereIs();
        leftAheadOfTheNight();
        riskOfNoneAndAll();
        drawBelowRisk();
        drawsGoRound();
        noDrawWithoutRisk();
        drawsOfTheNextMarket();
        yesterdayBeforeTheFirst();
        thirtyDays();
        Check.finish();
    }

    private static UnsoldPrice open(String market, String... rules) {
        UnsoldPrice x = Check.open(market);
        for (int k = 0; k < rules.length; k++) {
            Check.due("text(1) of " + rules[k], Check.rule(x, rules[k]), k);
        }
        return x;
    }

    private static void boardIsFreeAtFirst() {
        for (int free = 0; free <= 20; free++) {
            UnsoldPrice x = open("s;b;lf" + free);
            Check.due("the board at first", x.count(5), free);
            Check.due("free", x.count(9), free);
            x.hold(0, true);
            Check.due("who holds asks it", x.days(1), free);
            Check.due("who holds asks it", x.seller(0, 8), free);
        }
        Check.due("12 without a law", open("s;b").count(5), 12);
    }

    /** 99 at most; those above are not brought, nor paid. */
    private static void ninetyNineGoods() {
        for (int brings = 0; brings <= 9; brings++) {
            // Nobody buys: the board of 5 is above the worth of 1.
            UnsoldPrice x = open("sn" + brings + "c2;bv1m1;lf5");
            for (int day = 1; day <= 101; day++) {
                x.days(1);
                int goods = Math.min(99, brings * day);
                Check.due(brings + " a day, day " + day, x.seller(0, 3), goods);
                Check.due("paid", x.seller(0, 5), -2 * goods);
            }
        }
        UnsoldPrice rots = open("sn9c1r2;bv1m1;lf5");
        rots.days(20);
        Check.due("99 of the morning, less two", rots.seller(0, 3), 97);
        Check.due("left ahead of the night", rots.seller(0, 4), 99);
        int paid = rots.seller(0, 5);
        rots.days(1);
        Check.due("two of nine are brought", rots.seller(0, 5), paid - 2);
        UnsoldPrice one = open("sn9c1r1;bv1m1;lf5");
        one.days(20);
        paid = one.seller(0, 5);
        one.days(1);
        Check.due("one of nine is brought", one.seller(0, 5), paid - 1);
        UnsoldPrice all = open("sn9c0;bv5m9w3;bv5m9w3;bv5m9w3;lf5");
        all.hold(0, true);
        all.days(11);
        all.hold(0, false);
        Check.due("27 a day for four days may buy", all.seller(0, 3), 99);
        all.days(1);
        Check.due("99 are sold", all.seller(0, 9), 99);
        Check.due("none is left", all.seller(0, 3), 0);
        Check.due("nine wait", all.buyers(0, 3) + all.buyers(1, 3) + all.buyers(2, 3), 9);
    }

    private static void ninetyNineOfTheStranger() {
        UnsoldPrice x = open("sn0;bv9m9;bv9m9;bv9m9;bv9m9;bv9m9;bv9m9;lf5");
        Check.due("one", x.stranger(1, 9, 1), 1);
        Check.due("54 sell", x.stranger(54, 9, 1), 54);
        Check.due("54 sell: free", x.stranger(54, 9, 0), 5);
        Check.due("55: one is left and leads", x.stranger(55, 9, 0), 9);
        Check.due("99: 45 are left", x.stranger(99, 9, 1), 54);
        Check.due("asking 0", x.stranger(99, 0, 0), 0);
        Check.due("asking 20", x.stranger(99, 20, 0), 20);
        Check.due("asking 20: not sold", x.stranger(99, 20, 1), 0);
    }

    private static void twiceAsManyOnFeasts() {
        for (int many = 1; many <= 9; many++) {
            UnsoldPrice x = open("sn0;bv9w3m" + many + ";lf5");
            x.days(1);
            Check.due("no feast", x.buyers(0, 3), many);
            x.risk(100);
            x.days(1);
            Check.due("who waits is not twice", x.buyers(0, 3), many + 2 * many);
            Check.due("many stays", x.buyers(0, 1), many);
        }
        UnsoldPrice w = open("sn1;bv9w1m2;bv1m3;lf20", "y:w");
        w.rule(0, 0);
        w.risk(100);
        w.days(1);
        Check.due("w on a feast", w.seller(0, 8), 10);
    }

    private static void askedWithinTheBoard() {
        for (int board = 0; board <= 20; board++) {
            int[] want = {board, board, Math.max(0, board - 1), 0, 0};
            for (int rule = 0; rule < 5; rule++) {
                UnsoldPrice x = open("sn9;bv20m1;lf" + board, "y:p+1", "y:p", "y:p-1", "y:0-1", "y:0");
                x.rule(0, rule);
                x.days(1);
                Check.due("board " + board + ", rule " + rule, x.seller(0, 8), want[rule]);
            }
            UnsoldPrice none = open("sn9;bv20m1;lf" + board);
            none.days(1);
            Check.due("the board without a rule", none.seller(0, 8), board);
        }
    }

    private static void boardOfZero() {
        UnsoldPrice x = open("sn2c0;bv0m1;lf0");
        Check.due("asks 0", x.days(1), 0);
        Check.due("0 is no more than a worth of 0", x.seller(0, 9), 1);
        Check.due("surplus", x.count(6), 0);
        Check.due("best of one asking", x.best(0, 3, 0), 0);
        Check.due("one row of askings", x.rest(NONE), 1);
        Check.due("one row of askings", x.rest(0), 0);
        Check.due("one row of askings", x.rest(1), NONE);
        Check.due("lone of one asking", x.lone(0, 0), 0);
        x.ask(0, 0, 0);
        Check.due("0 is lawful", x.month(1, 0), NONE);
        x.ask(0, 0, 1);
        Check.due("1 is not", x.month(1, 0), 0);
    }

    private static void whoHoldsSellsNothing() {
        UnsoldPrice x = open("sn1;sn9;bv20m9;lf8", "y:0");
        x.rule(0, 0);
        x.rule(1, 0);
        x.hold(0, true);
        x.hold(1, true);
        Check.due("all hold: no jump", x.falls(1, 0), 0);
        x.days(1);
        for (int s = 0; s < 2; s++) {
            Check.due("sold", x.seller(s, 9), 0);
            Check.due("asks the board", x.seller(s, 8), 8);
        }
        Check.due("gain: what it paid", x.seller(0, 5), -1);
        UnsoldPrice none = open("sn0;bv20m9;lf8");
        none.hold(0, true);
        Check.due("without goods who holds is not unsold", none.falls(1, 0), 1);
    }

    private static void noMoreThanTheWorth() {
        for (int worth = 0; worth <= 20; worth++) {
            UnsoldPrice x = open("sn9c0;bv" + worth + "m2;lf20", "y:" + worth, "y:" + worth + "+1",
                    "y:" + worth + "-1");
            x.rule(0, 0);
            Check.due("asks its worth", x.served(0, 1, 0), 2);
            Check.due("surplus", x.other(0, 1, 1), 0);
            x.rule(0, 1);
            Check.due("asks one more", x.served(0, 1, 0), worth == 20 ? 2 : 0);
            x.rule(0, 2);
            Check.due("asks one less", x.served(0, 1, 0), 2);
            Check.due("surplus", x.other(0, 1, 1), worth == 0 ? 0 : 2);
        }
    }

    /** Of like ones the lower sort first; of several sellers the lowest. */
    private static void likeOnesTheLower() {
        UnsoldPrice x = open("sn1c0;sn1c0;sn1c0;bv9m1;bv9m1;bv9m1;bv9m1;lf8");
        for (int sort = 0; sort < 4; sort++) {
            Check.due("of four like ones three buy", x.served(sort, 1, 0), sort < 3 ? 1 : 0);
        }
        UnsoldPrice two = open("sn1c0;sn1c0;sn1c0;bv9m2;lf8");
        two.days(1);
        for (int s = 0; s < 3; s++) {
            Check.due("of three like ones two sell", two.seller(s, 9), s < 2 ? 1 : 0);
        }
        UnsoldPrice above = open("sn1c0;sn1c0;bv8m1;bv9m1;bv10m1;lf8");
        Check.due("worth 8 is the last", above.served(0, 1, 0), 0);
        Check.due("worth 9", above.served(1, 1, 0), 1);
        Check.due("worth 10", above.served(2, 1, 0), 1);
    }

    private static void waitsAndGoes() {
        for (int waits = 0; waits <= 3; waits++) {
            UnsoldPrice x = open("sn0;bv9m2w" + waits + ";lf5");
            for (int day = 1; day <= 6; day++) {
                Check.due("who goes without by day " + day, x.served(0, day, 1),
                        2 * Math.max(0, day - waits));
            }
            for (int day = 1; day <= 6; day++) {
                x.days(1);
                Check.due("who waits " + waits + " behind day " + day, x.buyers(0, 3),
                        2 * Math.min(day, waits));
            }
        }
    }

    /** Three days' buyers wait; only so many goods: those go first who came first. */
    private static void firstWhoCameFirst() {
        for (int goods = 0; goods <= 9; goods++) {
            UnsoldPrice x = open("sn0;bv9m2w3;lf5");
            x.days(3);
            Check.due("six wait", x.buyers(0, 3), 6);
            // Eight are here; the stranger sells to the oldest, of whom two would go today.
            Check.due("sold", x.stranger(goods == 0 ? 1 : goods, 5, 1),
                    goods == 0 ? 1 : Math.min(8, goods));
        }
        UnsoldPrice one = open("sn1;bv9m2w3;lf5");
        one.hold(0, true);
        one.days(3);
        one.hold(0, false);
        Check.due("four goods: none of the oldest goes", one.served(0, 1, 1), 0);
        Check.due("nor of those behind them", one.served(0, 3, 1), 0);
        Check.due("of the two of the fourth day one goes", one.served(0, 4, 1), 1);
    }

    private static void noUnsoldIsFree() {
        UnsoldPrice x = open("sn2c0;bv20m2;lf9", "y:4");
        x.rule(0, 0);
        Check.due("all is sold: free", x.ahead(1), 9);
        Check.due("a jump", x.falls(1, 0), 1);
        UnsoldPrice left = open("sn3c0;bv20m2;lf9", "y:4");
        left.rule(0, 0);
        Check.due("one is left", left.ahead(1), 4);
        Check.due("no jump", left.falls(1, 0), 0);
        UnsoldPrice same = open("sn3c0;bv20m2;lf4", "y:4");
        Check.due("free by chance is no jump", same.falls(1, 0), 0);
        UnsoldPrice rotten = open("sn3c0r9;bv20m2;lf9", "y:4");
        rotten.rule(0, 0);
        Check.due("what rots was left", rotten.ahead(1), 4);
        UnsoldPrice none = open("sn0;sn0;sn0;sn0;sn0;b;lf7q2");
        Check.due("no goods at all: a jump a day", none.falls(30, 0), 30);
        Check.due("free", none.ahead(30), 7);
    }

    /** Unsold are those with goods behind (1): new ones count, those without any do not. */
    private static void goodsInTheMorning() {
        UnsoldPrice x = open("sn0;sn1;bv1m1;lf8", "y:2", "y:5");
        x.rule(0, 0);
        x.rule(1, 1);
        Check.due("who has no goods does not lead", x.ahead(1), 5);
        Check.due("nor is it asked by any who may sell", x.when(1, 1), 5);
        x.hold(1, true);
        Check.due("who holds leads with the board", x.ahead(1), 8);
        Check.due("but may not sell", x.when(1, 0), NONE);
    }

    /** The one at half of how many less 1, cut. */
    private static void middleOfHowMany() {
        String[] rules = {"y:11", "y:5", "y:9", "y:3", "y:7"};
        int[] middle = {11, 5, 9, 5, 7};
        int[] least = {11, 5, 5, 3, 3};
        for (int sellers = 1; sellers <= 5; sellers++) {
            UnsoldPrice x = open("sn2;".repeat(sellers) + "bv1m1;lf12q2", rules);
            for (int s = 0; s < sellers; s++) {
                x.rule(s, s);
            }
            Check.due("the middle of " + sellers, x.ahead(1), middle[sellers - 1]);
            Check.due("the middle of " + sellers, x.other(2, 1, 2), 0);
            UnsoldPrice cheap = open("sn2;".repeat(sellers) + "bv1m1;lf12q0", rules);
            UnsoldPrice dear = open("sn2;".repeat(sellers) + "bv1m1;lf12q1", rules);
            for (int s = 0; s < sellers; s++) {
                cheap.rule(s, s);
                dear.rule(s, s);
            }
            Check.due("the least of " + sellers, cheap.ahead(1), least[sellers - 1]);
            Check.due("the greatest of " + sellers, dear.ahead(1), 11);
        }
        UnsoldPrice repeats = open("sn2;sn2;sn2;sn2;sn2;bv1m1;lf12q2", "y:3", "y:9");
        int[] by = {1, 0, 1, 0, 1};
        for (int s = 0; s < 5; s++) {
            repeats.rule(s, by[s]);
        }
        Check.due("3, 3, 9, 9, 9: with repeats", repeats.ahead(1), 9);
        repeats.rule(4, 0);
        Check.due("3, 3, 3, 9, 9: with repeats", repeats.ahead(1), 3);
    }

    private static void rotAsFarAsThereIs() {
        for (int rot = 0; rot <= 9; rot++) {
            for (int left = 0; left <= 9; left++) {
                UnsoldPrice x = open("sn" + left + "c1r" + rot + ";bv1m1;lf5");
                x.days(1);
                Check.due(left + " left", x.seller(0, 4), left);
                Check.due(rot + " rot", x.seller(0, 3), Math.max(0, left - rot));
                Check.due("paid", x.seller(0, 5), -left);
            }
        }
    }

    private static void leftAheadOfTheNight() {
        UnsoldPrice x = open("sn4r3;bv1m1;lf20", "y:u");
        x.rule(0, 0);
        x.days(1);
        Check.due("no day yet: 0", x.seller(0, 8), 0);
        UnsoldPrice y = open("sn4r3;bv1m1;lf20", "y:u");
        y.days(1);
        y.rule(0, 0);
        Check.due("four ahead of the night", y.ahead(1), 4);
    }

    private static int feasts(int risk, int days, long seed) {
        UnsoldPrice x = open("sn0;bv9m1w1;lf5");
        x.seed(seed);
        x.risk(risk);
        int feasts = 0;
        for (int k = 0; k < days; k++) {
            x.days(1);
            feasts += x.buyers(0, 3) - 1;
        }
        return feasts;
    }

    private static void riskOfNoneAndAll() {
        Check.due("risk 0 is none", feasts(0, 200, 5), 0);
        Check.due("risk 100 is all", feasts(100, 200, 5), 200);
        UnsoldPrice x = open("sn0;bv9m1w1;lf5");
        x.days(30);
        Check.due("0 at first", x.buyers(0, 3), 1);
    }

    private static BigInteger nextDraw(BigInteger x) {
        return x.multiply(new BigInteger("6364136223846793005"))
                .add(new BigInteger("1442695040888963407")).mod(ROUND);
    }

    private static int ofHundred(BigInteger x) {
        return x.shiftRight(33).mod(BigInteger.valueOf(100)).intValue();
    }

    /** A feast is a draw below the risk: not one that is like it. */
    private static void drawBelowRisk() {
        boolean none = false;
        boolean most = false;
        for (int seed = 0; seed < 300; seed++) {
            int draw = ofHundred(nextDraw(BigInteger.valueOf(seed)));
            Check.due("a draw like the risk, " + draw, feasts(draw, 1, seed), 0);
            Check.due("a draw below the risk, " + draw, feasts(draw + 1, 1, seed), 1);
            none |= draw == 0;
            most |= draw == 99;
        }
        Check.due("some were 0", none, true);
        Check.due("some were 99", most, true);
    }

    /** 64 bits going round; shifted right by 33 without sign. */
    private static void drawsGoRound() {
        long[] seeds = {0L, 1L, -1L, Long.MAX_VALUE, Long.MIN_VALUE, 1L << 33, -(1L << 33), 1L << 32,
            0xFFFFFFFFL, -1442695040888963407L};
        boolean high = false;
        boolean low = false;
        for (long seed : seeds) {
            UnsoldPrice x = open("sn0;bv9m1w1;lf5");
            Check.due("seed " + seed, x.seed(seed), true);
            x.risk(50);
            BigInteger draw = BigInteger.valueOf(seed).mod(ROUND);
            for (int k = 0; k < 60; k++) {
                draw = nextDraw(draw);
                high |= draw.testBit(63);
                low |= !draw.testBit(63);
                x.days(1);
                Check.due("seed " + seed + ", draw " + k, x.buyers(0, 3), ofHundred(draw) < 50 ? 2 : 1);
            }
        }
        Check.due("draws with the highest bit, and without", high && low, true);
    }

    private static void noDrawWithoutRisk() {
        UnsoldPrice x = open("sn0;bv9m1w1;lf5");
        UnsoldPrice y = open("sn0;bv9m1w1;lf5");
        x.seed(77);
        y.seed(77);
        x.days(7);
        x.risk(1);
        x.risk(0);
        x.days(7);
        x.risk(40);
        y.risk(40);
        int feasts = 0;
        for (int k = 0; k < 40; k++) {
            x.days(1);
            y.days(1);
            Check.due("days without risk draw nothing", x.buyers(0, 3), y.buyers(0, 3));
            feasts += x.buyers(0, 3) - 1;
            x.ahead(30);
            x.odds(10, 3);
        }
        Check.due("some were feasts, some not", feasts > 0 && feasts < 40, true);
        // Each day with risk draws once, feast or not, at 100, too.
        UnsoldPrice sure = open("sn0;bv9m1w1;lf5");
        sure.seed(3);
        sure.risk(100);
        sure.days(5);
        sure.risk(50);
        BigInteger draw = BigInteger.valueOf(3);
        for (int k = 0; k < 5; k++) {
            draw = nextDraw(draw);
        }
        for (int k = 0; k < 20; k++) {
            draw = nextDraw(draw);
            sure.days(1);
            Check.due("days of risk 100 draw, too", sure.buyers(0, 3), ofHundred(draw) < 50 ? 2 : 1);
        }
    }

    /** Another market has the risk and goes on with the draws, a seed told ahead of any, too. */
    private static void drawsOfTheNextMarket() {
        UnsoldPrice x = new UnsoldPrice();
        Check.due("risk without a market", x.risk(50), true);
        Check.due("seed without a market", x.seed(12L), true);
        BigInteger draw = BigInteger.valueOf(12);
        for (int market = 0; market < 8; market++) {
            Check.due("a market", Check.market(x, "sn0;bv9m1w1;lf5"), 1);
            for (int k = 0; k < 5; k++) {
                draw = nextDraw(draw);
                x.days(1);
                Check.due("draws go on", x.buyers(0, 3), ofHundred(draw) < 50 ? 2 : 1);
            }
        }
    }

    private static void yesterdayBeforeTheFirst() {
        UnsoldPrice x = open("s;s;b;lf0");
        for (int s = 0; s < 2; s++) {
            Check.due("goods", x.seller(s, 3), 0);
            Check.due("left", x.seller(s, 4), 0);
            Check.due("gain", x.seller(s, 5), 0);
            Check.due("no rule", x.seller(s, 6), NONE);
            Check.due("asked: no day yet", x.seller(s, 8), NONE);
            Check.due("sold: no day yet", x.seller(s, 9), 0);
        }
        x.days(1);
        Check.due("asked 0 on a board of 0", x.seller(0, 8), 0);
    }

    private static void thirtyDays() {
        UnsoldPrice x = open("sn3c1r1;sn2c2;bv9m2w2;bv12m1;lf15", "y:p-1", "y:d+u-w+3");
        UnsoldPrice y = open("sn3c1r1;sn2c2;bv9m2w2;bv12m1;lf15", "y:p-1", "y:d+u-w+3");
        x.rule(0, 0);
        x.rule(1, 1);
        y.rule(0, 0);
        y.rule(1, 1);
        int board = 0;
        for (int k = 0; k < 30; k++) {
            board = y.days(1);
        }
        Check.due("thirty days at once, ahead", x.ahead(30), board);
        Check.due("thirty days at once", x.days(30), board);
        Check.due("the day", x.count(4), 30);
        for (int s = 0; s < 2; s++) {
            for (int what = 0; what <= 9; what++) {
                Check.due("seller", x.seller(s, what), y.seller(s, what));
            }
        }
        Check.due("31", x.days(31), NONE);
        Check.due("0", x.days(0), NONE);
        Check.due("the day", x.count(4), 30);
    }
}
