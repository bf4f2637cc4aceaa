/** Each sentence of the document that bounds a question: its edges on either side, by hand. */
public final class QuestionBoundsTest {
    private static final int NONE = UnsoldPrice.NONE;
    private static final int HIDDEN = UnsoldPrice.HIDDEN;
    private static final int ALL = 1000000000;

    private QuestionBoundsTest() {
    }

    public static void main(String[] args) {
        fallCountsTheBoardAsItIs();
        noJumpBetween();
        ringAtOnce();
        ringOfSixtyDays();
        bestOfOneToThreeDays();
        bestOfSeveralTheLeast();
        bestHoldsItself();
        restOfThreeSellers();
        restOfWhoHolds();
        foolAgainstNot();
        keptUpByTheFewest();
        whenOnNone();
        strangerBehindAllOthers();
        twentySeen();
        fitsOfSets();
        otherLaws();
        sixtyAskings();
        monthOfDays();
        monthOfSellers();
        monthOfWhoHolds();
        monthOfWhoIsNotTold();
        turnsModuloSellers();
        bribeOfWhoDoNotHold();
        spreadOfDays();
        servedNotWhoWaits();
        oddsOfParts();
        oddsOfPrice();
        loneOfTheBoard();
        glutOfMoreThanNew();
        imageInsteadOfTheOneAhead();
        imageOfThisMarket();
        countWithoutMarket();
        tapeOf160();
        callsUpTo512();
        Check.finish();
    }

    private static UnsoldPrice open(String market, String... rules) {
        UnsoldPrice x = Check.open(market);
        for (int k = 0; k < rules.length; k++) {
            Check.due("text(1) of " + rules[k], Check.rule(x, rules[k]), k);
            x.rule(k, k);
        }
        return x;
    }

    private static void fallCountsTheBoardAsItIs() {
        UnsoldPrice x = open("sn9;bv1m1;lf20", "y:p-7");
        Check.due("20 to 13", x.falls(1, 1), 7);
        Check.due("20 to 6", x.falls(2, 1), 14);
        Check.due("20 to 0", x.falls(3, 1), 20);
        Check.due("20 at most", x.falls(30, 1), 20);
        x.days(1);
        Check.due("13 to 6", x.falls(1, 1), 7);
        Check.due("13 to 0", x.falls(30, 1), 13);
        UnsoldPrice same = open("sn9;bv1m1;lf20");
        Check.due("no fall", same.falls(30, 1), 0);
        Check.due("no jump", same.falls(30, 0), 0);
    }

    private static void noJumpBetween() {
        // 9, 6, then 3 is asked and all are sold: 9 by a jump, 6, and so on.
        UnsoldPrice x = open("sn1c0;bv3m9;lf9", "y:p-3");
        Check.due("9 to 6", x.falls(1, 1), 3);
        Check.due("one jump", x.falls(2, 0), 1);
        Check.due("no fall by a jump", x.falls(2, 1), 3);
        Check.due("9 to 6 behind the jump", x.falls(3, 1), 3);
        Check.due("15 jumps", x.falls(30, 0), 15);
        x.days(1);
        Check.due("6 to 9 is no fall", x.falls(1, 1), 0);
        Check.due("from 9 behind the jump", x.falls(2, 1), 3);
        // Free is below the board as it is: the jump down is no fall.
        UnsoldPrice down = open("sn0;bv20m9;lf2");
        Check.due("no fall", down.falls(30, 1), 0);
        Check.due("30 jumps", down.falls(30, 0), 30);
    }

    private static void ringAtOnce() {
        UnsoldPrice x = open("sn0;b;lf0");
        Check.due("day 0", x.ring(0), 0);
        Check.due("a day on", x.ring(1), 1);
        UnsoldPrice left = open("sn1r1;bv1m1;lf5");
        // Like goods, board and waiting, but one was left: not as it was on day 0.
        Check.due("what was left counts", left.ring(0), 1);
        Check.due("a day on", left.ring(1), 1);
        for (int waits = 0; waits <= 3; waits++) {
            UnsoldPrice y = open("sn0;bv9m1w" + waits + ";lf5");
            Check.due("who waits counts, by how long", y.ring(0), waits);
            Check.due("a day on", y.ring(1), 1);
        }
        UnsoldPrice board = open("sn0;sn1r9;bv1m1;lf4", "y:1", "y:p-1");
        board.days(1);
        // 3, 2, then 1 is asked and sold: 4, then 3 again.
        Check.due("the board counts", board.ring(1), 3);
        Check.due("the first day that is so again", board.ring(0), 0);
    }

    /** The least number of days after which it is so again is 60 at most. */
    private static void ringOfSixtyDays() {
        String market = "sn1;sn1r9;bv3m9;bv3m9;bv3m9;bv3m9;bv3m9;bv3m9;lf5q1";
        // 54 of so many goods are sold at 3 on the day on which they are there.
        UnsoldPrice x = open(market, "y:g>59?3;y:p");
        Check.due("six are left behind 60 days", x.ring(0), 6);
        Check.due("as 54 days ahead of it", x.ring(1), 54);
        UnsoldPrice less = open(market, "y:g>58?3;y:p");
        Check.due("five behind 59 days", less.ring(0), 5);
        Check.due("54 days on", less.ring(1), 54);
        UnsoldPrice more = open(market, "y:g>60?3;y:p");
        Check.due("seven behind 61 days", more.ring(0), NONE);
        Check.due("seven behind 61 days", more.ring(1), NONE);
        UnsoldPrice last = open("sn1;bv1m1;lf8");
        last.days(30);
        last.days(9);
        Check.due("99 goods on day 60 for the first time", last.ring(0), NONE);
        last.days(1);
        Check.due("on day 59, the 60th", last.ring(0), 59);
        Check.due("a day on", last.ring(1), 1);
        last.days(1);
        Check.due("on day 58", last.ring(0), 58);
    }

    private static void bestOfOneToThreeDays() {
        for (int free = 0; free <= 20; free++) {
            UnsoldPrice x = open("sn1c0;bv20m1;lf" + free);
            Check.due("one day", x.best(0, 1, 0), free);
            Check.due("one day", x.best(0, 1, 1), free);
            Check.due("two days", x.best(0, 2, 0), 101 * free);
            Check.due("two days", x.best(0, 2, 1), 2 * free);
            Check.due("three days", x.best(0, 3, 0), 10101 * free);
            Check.due("three days", x.best(0, 3, 1), 3 * free);
        }
        UnsoldPrice x = open("s;s;s;s;s;b");
        Check.due("no days", x.best(0, 0, 0), HIDDEN);
        Check.due("four days", x.best(0, 4, 0), HIDDEN);
        Check.due("the last seller", x.best(4, 1, 0) != HIDDEN, true);
        Check.due("one behind it", x.best(5, 1, 0), HIDDEN);
        Check.due("one ahead of the first", x.best(-1, 1, 0), HIDDEN);
    }

    private static void bestOfSeveralTheLeast() {
        UnsoldPrice x = open("sn0c0;b;lf20");
        Check.due("all rows are like", x.best(0, 3, 0), 0);
        Check.due("gain", x.best(0, 3, 1), 0);
        // One at 8 or two at 4: four of them on the three days are there, two are left by 8.
        UnsoldPrice y = open("sn2c0r9;bv8m1;bv4m1;lf8");
        Check.due("4 ahead of 8", y.best(0, 1, 0), 4);
        Check.due("both gain 8", y.best(0, 1, 1), 8);
        Check.due("4, then free again", y.best(0, 3, 0), 40404);
        Check.due("8 a day", y.best(0, 3, 1), 24);
        UnsoldPrice loss = open("sn9c20;bv0m1;lf20");
        Check.due("a loss in any row", loss.best(0, 3, 1), -540);
        Check.due("the least row", loss.best(0, 3, 0), 0);
    }

    private static void bestHoldsItself() {
        UnsoldPrice x = open("sn1c0;sn1c0;bv20m1;lf9");
        x.hold(0, true);
        Check.due("it does not hold for that", x.best(0, 1, 1), 9);
        Check.due("it holds still", x.seller(0, 7), 1);
        Check.due("the other is alone", x.best(1, 1, 0), 9);
        x.hold(0, false);
        Check.due("the other must ask less", x.best(1, 1, 0), 8);
    }

    private static void restOfThreeSellers() {
        String[] markets = {"s", "s;s", "s;s;s"};
        int[] rows = {21, 441, 9261};
        int[] last = {20, 2020, 202020};
        for (int k = 0; k < 3; k++) {
            UnsoldPrice x = open(markets[k].replace("s", "sn0") + ";b;lf20");
            Check.due("all rows", x.rest(NONE), rows[k]);
            Check.due("the first", x.rest(0), 0);
            Check.due("the second", x.rest(1), 1);
            Check.due("the 21st", x.rest(20), 20);
            Check.due("the last", x.rest(rows[k] - 1), last[k]);
            Check.due("one behind", x.rest(rows[k]), NONE);
            Check.due("one ahead", x.rest(-2), NONE);
            Check.due("far behind", x.rest(Integer.MAX_VALUE), NONE);
            Check.due("far ahead", x.rest(Integer.MIN_VALUE), NONE);
        }
        UnsoldPrice four = open("s;s;s;s;b");
        for (int i : new int[] {NONE, 0, 1, -2, Integer.MIN_VALUE, Integer.MAX_VALUE}) {
            Check.due("four sellers", four.rest(i), HIDDEN);
            Check.due("five sellers", open("s;s;s;s;s;b").rest(i), HIDDEN);
            Check.due("no market", new UnsoldPrice().rest(i), HIDDEN);
        }
    }

    private static void restOfWhoHolds() {
        UnsoldPrice x = open("sn0;sn0;sn0;b;lf20");
        x.hold(1, true);
        Check.due("who holds asks the board", x.rest(NONE), 441);
        Check.due("the first", x.rest(0), 2000);
        Check.due("the last", x.rest(440), 202020);
        Check.due("one behind", x.rest(441), NONE);
        x.hold(0, true);
        x.hold(2, true);
        Check.due("all hold: one row", x.rest(NONE), 1);
        Check.due("all hold", x.rest(0), 202020);
        Check.due("all hold", x.rest(1), NONE);
        // A good of 5 at most: none would take more by asking otherwise but at 5.
        UnsoldPrice one = open("sn1;bv5m1;lf20");
        Check.due("one row", one.rest(NONE), 1);
        Check.due("5", one.rest(0), 5);
    }

    private static void foolAgainstNot() {
        // Asks 0, and pays 20 for each: who holds has 99 at most and pays no more.
        UnsoldPrice x = open("sn9c20;bv5m9;lf5", "y:0");
        Check.due("a day", x.fool(0, 1, 0), 0);
        Check.due("eleven days: 99 goods", x.fool(0, 11, 0), 0);
        Check.due("twelve days: nine are not paid", x.fool(0, 12, 0), -180);
        Check.due("thirty days", x.fool(0, 30, 0), -180 * 19);
        Check.due("no others", x.fool(0, 30, 1), 0);
        x.hold(0, true);
        Check.due("against not, though it holds", x.fool(0, 12, 0), -180);
        Check.due("it holds still", x.seller(0, 7), 1);
        UnsoldPrice five = open("sn1;sn1;sn1;sn1;sn1;bv9m4;lf9");
        Check.due("the last sells nothing", five.fool(4, 1, 0), 0);
        Check.due("the last sells nothing", five.fool(4, 1, 1), 0);
        Check.due("the first sells one", five.fool(0, 1, 0), 9);
        Check.due("the last instead", five.fool(0, 1, 1), 9);
        Check.due("no such one", five.fool(5, 1, 0), HIDDEN);
        Check.due("no such one", five.fool(-1, 1, 0), HIDDEN);
    }

    private static void keptUpByTheFewest() {
        UnsoldPrice x = open("sn9;sn9;sn9;sn9;sn9;bv20m1;lf20", "y:p-1", "y:p-1", "y:p-1", "y:p-1",
                "y:p-1");
        Check.due("all five", x.up(1, 20), 31);
        Check.due("nobody", x.up(1, 19), 0);
        Check.due("two days", x.up(2, 18), 0);
        Check.due("two days", x.up(2, 19), 31);
        Check.due("thirty days", x.up(30, 0), 0);
        Check.due("thirty days", x.up(30, 20), 31);
        UnsoldPrice low = open("sn9;bv20m1;lf19");
        Check.due("like the board", low.up(30, 19), 0);
        Check.due("above it", low.up(30, 20), NONE);
        Check.due("price 0", low.up(1, 0), 0);
        Check.due("price -1", low.up(1, -1), NONE);
        Check.due("price 21", low.up(1, 21), NONE);
        low.hold(0, true);
        Check.due("these, no others", low.up(1, 19), 0);
        // The first two, or the third alone: the fewest, though its bits are more.
        UnsoldPrice fewest = open("sn9;sn9;sn9;bv20m9;bv20m9;lf9", "y:p-1", "y:p-1");
        Check.due("one of the first two sells all 18", fewest.up(1, 9), 0);
        UnsoldPrice like = open("sn9;sn9;bv20m9;lf9", "y:p-1", "y:p-1");
        Check.due("of several the least", like.up(1, 9), 1);
    }

    private static void whenOnNone() {
        UnsoldPrice x = open("sn0;b;lf9");
        Check.due("no goods", x.when(30, 0), NONE);
        Check.due("no goods", x.when(30, 1), NONE);
        UnsoldPrice holds = open("s;b;lf9");
        holds.hold(0, true);
        Check.due("all hold", holds.when(30, 0), NONE);
        Check.due("all hold", holds.when(30, 1), NONE);
        UnsoldPrice zero = open("s;b;lf0");
        Check.due("asked 0", zero.when(30, 0), 0);
        Check.due("asked 0", zero.when(30, 1), 0);
        UnsoldPrice last = open("sn9;sn9;bv1m1;lf9", "y:d=29?3;y:9");
        Check.due("the last day", last.when(30, 0), 29);
        Check.due("the last day", last.when(30, 1), 3);
        Check.due("a day less", last.when(29, 0), 0);
        Check.due("a day less", last.when(29, 1), 9);
        UnsoldPrice later = open("sn9;sn9;bv1m1;lf9", "y:d=2|d=4?3;y:9");
        later.hold(1, true);
        Check.due("of several the first", later.when(30, 0), 2);
        UnsoldPrice two = open("sn9;sn0;bv1m1;lf9", "y:8", "y:1");
        Check.due("who has no goods is left out", two.when(1, 1), 8);
    }

    private static void strangerBehindAllOthers() {
        UnsoldPrice five = open("sn1;sn1;sn1;sn1;sn1;bv9m6;lf9");
        Check.due("the sixth, of like askings the last", five.stranger(1, 9, 1), 1);
        Check.due("none the less", five.stranger(1, 9, 2), 0);
        Check.due("one too many", five.stranger(2, 9, 1), 1);
        Check.due("one is left, and leads", five.stranger(2, 9, 0), 9);
        Check.due("all are sold: free", five.stranger(1, 3, 0), 9);
        Check.due("the last seller takes 9 less", five.stranger(2, 8, 2), 9);
        Check.due("no goods", five.stranger(0, 5, 0), HIDDEN);
        Check.due("100 goods", five.stranger(100, 5, 0), HIDDEN);
        Check.due("-1", five.stranger(1, -1, 0), HIDDEN);
        Check.due("21", five.stranger(1, 21, 0), HIDDEN);
        UnsoldPrice holds = open("sn1;bv20m1;lf9");
        holds.hold(0, true);
        Check.due("above the board it sells", holds.stranger(1, 20, 1), 1);
        Check.due("who holds is unsold and leads", holds.stranger(2, 20, 0), 9);
        // Who comes today is gone tomorrow.
        Check.due("the market stays", holds.count(0), 1);
        Check.due("the board", holds.ahead(1), 9);
    }

    private static void twentySeen() {
        UnsoldPrice x = open("s;b;lf9");
        for (int k = 1; k <= 20; k++) {
            Check.due("seen", x.see(k, 9), k);
            Check.due("seen", x.count(7), k);
            Check.due("days -0", x.see(0, 9), NONE);
            Check.due("31 days", x.see(31, 9), NONE);
            Check.due("board -1", x.see(1, -1), NONE);
            Check.due("board 21", x.see(1, 21), NONE);
        }
        Check.due("a 21st", x.see(1, 9), NONE);
        Check.due("a 21st", x.see(1, 20), NONE);
        Check.due("it is not kept", x.count(7), 20);
        Check.due("nor looked at", x.fits(NONE), 2);
        UnsoldPrice edges = open("s;b;lf9");
        Check.due("1 day, board 0", edges.see(1, 0), 1);
        Check.due("30 days, board 20", edges.see(30, 20), 2);
        Check.market(edges, "s;b");
        Check.due("of another market none", edges.count(7), 0);
        Check.due("none is there yet", edges.see(1, 1), 1);
    }

    private static void fitsOfSets() {
        for (int sellers = 1; sellers <= 5; sellers++) {
            UnsoldPrice x = open("sn0;".repeat(sellers) + "b;lf9");
            int sets = 1 << sellers;
            Check.due("nothing seen", x.fits(NONE), sets);
            x.see(30, 9);
            Check.due("all sets", x.fits(NONE), sets);
            for (int set = 0; set < sets; set++) {
                Check.due("rising", x.fits(set), set);
            }
            Check.due("one behind", x.fits(sets), NONE);
            Check.due("one ahead", x.fits(-2), NONE);
            Check.due("far behind", x.fits(Integer.MAX_VALUE), NONE);
            Check.due("far ahead", x.fits(Integer.MIN_VALUE), NONE);
            x.see(1, 8);
            Check.due("no set", x.fits(NONE), 0);
            Check.due("no set", x.fits(0), NONE);
        }
        // It asks one less a day: the board behind day 30, and not behind day 29 or 31.
        UnsoldPrice day = open("sn9;sn9;bv0m1;lf20", "y:d=29?3;y:20");
        day.hold(1, true);
        day.see(30, 3);
        day.see(29, 20);
        Check.due("behind the 30th day", day.fits(NONE), 2);
        Check.due("these, no others", day.fits(0), 0);
        Check.due("the second, too", day.fits(1), 2);
        Check.due("no more", day.fits(2), NONE);
    }

    private static void otherLaws() {
        UnsoldPrice x = open("sn9;sn9;sn9;bv0m1;lf20", "y:p-1", "y:p-2", "y:p-3");
        int[] sold = {0, 0, 0};
        for (int law = 0; law <= 2; law++) {
            Check.due("gains: what is paid", x.other(law, 1, 0), -27);
            Check.due("surplus", x.other(law, 1, 1), sold[law]);
            Check.due("jumps", x.other(law, 1, 2), 0);
        }
        Check.due("law 3", x.other(3, 1, 0), HIDDEN);
        Check.due("law -1", x.other(-1, 1, 0), HIDDEN);
        UnsoldPrice buys = open("sn9c0;sn9c0;sn9c0;bv20m1;lf20", "y:p-1", "y:p-2", "y:p-3");
        // On the second day the cheapest asks 3 less than the board of the law: 17, 19 or 18.
        Check.due("the cheapest", buys.other(0, 2, 0), 17 + 14);
        Check.due("the dearest", buys.other(1, 2, 0), 17 + 16);
        Check.due("the middle", buys.other(2, 2, 0), 17 + 15);
        Check.due("surplus", buys.other(2, 2, 1), 3 + 5);
        Check.due("the law stays", buys.count(10), 0);
        Check.due("the law stays", buys.ahead(1), 17);
    }

    private static void sixtyAskings() {
        UnsoldPrice x = open("s;b;lf9");
        for (int k = 1; k <= 60; k++) {
            Check.due("told", x.ask(0, k % 30, 9), k);
            Check.due("told", x.count(8), k);
            if (k % 20 == 0) {
                Check.due("day -1", x.ask(0, -1, 9), NONE);
                Check.due("day 30", x.ask(0, 30, 9), NONE);
                Check.due("-1", x.ask(0, 0, -1), NONE);
                Check.due("21", x.ask(0, 0, 21), NONE);
                Check.due("no such seller", x.ask(1, 0, 9), NONE);
                Check.due("no such seller", x.ask(-1, 0, 9), NONE);
            }
        }
        Check.due("lawful", x.month(30, 0), NONE);
        Check.due("a 61st", x.ask(0, 0, 10), NONE);
        Check.due("it is not kept", x.count(8), 60);
        Check.due("nor looked at", x.month(30, 0), NONE);
        UnsoldPrice last = open("s;b;lf9");
        for (int k = 0; k < 59; k++) {
            last.ask(0, 0, 9);
        }
        Check.due("the 60th", last.ask(0, 0, 10), 60);
        Check.due("the latest counts", last.month(1, 0), 0);
        Check.market(last, "s;b");
        Check.due("of another market none", last.count(8), 0);
        Check.due("none is there yet", last.ask(0, 0, 20), 1);
    }

    private static void monthOfDays() {
        for (int day = 0; day < 30; day++) {
            UnsoldPrice x = open("s;bv1m1;lf9");
            x.ask(0, day, 10);
            Check.due("the last day of n", x.month(day + 1, 0), day);
            Check.due("the last day of n", x.month(day + 1, 1), 0);
            Check.due("the first day behind n", x.month(day, 0), NONE);
        }
        for (int board = 0; board <= 20; board++) {
            UnsoldPrice x = open("s;bv0m1;lf" + board);
            x.ask(0, 0, board);
            Check.due("like the board is lawful", x.month(1, 0), NONE);
            if (board < 20) {
                x.ask(0, 0, board + 1);
                Check.due("one more is not", x.month(1, 0), 0);
            }
            x.ask(0, 0, 0);
            Check.due("0 is lawful", x.month(1, 0), NONE);
            // Asked 0 and unsold: the board is 0 on the next day.
            x.ask(0, 1, 1);
            Check.due("one above what was unsold", x.month(2, 0), 1);
        }
    }

    private static void monthOfSellers() {
        UnsoldPrice x = open("s;s;s;s;s;bv1m1;lf9");
        for (int s = 4; s >= 0; s--) {
            x.ask(s, 3, 10);
            Check.due("the lowest of several", x.month(30, 1), s);
            Check.due("the day", x.month(30, 0), 3);
        }
        x.ask(4, 2, 20);
        Check.due("the first day", x.month(30, 0), 2);
        Check.due("the last seller", x.month(30, 1), 4);
        Check.due("no such one", x.ask(5, 0, 1), NONE);
        Check.due("three days", x.month(3, 1), 4);
        Check.due("two days", x.month(2, 1), NONE);
        UnsoldPrice rules = open("s;b;lf9", "y:p+9");
        Check.due("by a rule none asks more", rules.month(30, 0), NONE);
    }

    private static void monthOfWhoHolds() {
        UnsoldPrice x = open("s;bv20m9;lf9");
        x.hold(0, true);
        x.ask(0, 0, 4);
        x.ask(0, 1, 5);
        Check.due("unsold at 4 leads: 5 is above", x.month(2, 0), 1);
        x.hold(0, false);
        Check.due("sold at 4: free, 5 is lawful", x.month(2, 0), NONE);
    }

    /** Who is not told for a day asks by its rule on that day, or the board. */
    private static void monthOfWhoIsNotTold() {
        UnsoldPrice x = open("sn1c0;sn9c0;bv20m1;lf9", "y:3", "y:p-2");
        // The first sells at 3; the second is left with its goods: 7, 5, 3.
        x.ask(0, 3, 8);
        Check.due("by rules the board is 3 on the fourth day", x.month(4, 0), 3);
        x.ask(0, 3, 3);
        Check.due("3 is lawful", x.month(4, 0), NONE);
        x.ask(0, 3, 4);
        Check.due("4 is not", x.month(4, 0), 3);
        x.ask(1, 1, 7);
        Check.due("told on the second day: 7, 7, 5, so 4 is lawful", x.month(4, 0), NONE);
        UnsoldPrice none = open("sn1c0;sn9c0;bv20m1;lf9");
        none.ask(0, 1, 9);
        Check.due("without a rule the board", none.month(2, 0), NONE);
    }

    private static void turnsModuloSellers() {
        for (int sellers = 1; sellers <= 5; sellers++) {
            UnsoldPrice x = open("sn1c0r9;".repeat(sellers) + "bv9m9;lf9");
            for (int n = 1; n <= 30; n++) {
                // One holds each day, all others sell at 9.
                Check.due(sellers + " sellers, gains of " + n, x.inTurn(n, 1), 9 * (sellers - 1) * n);
                Check.due("the first holds most, or as often as any", x.inTurn(n, 2), 0);
            }
            Check.due("the board", x.inTurn(30, 0), 9);
        }
        UnsoldPrice first = open("sn1c0r9;sn1c1r9;bv9m9;lf9");
        Check.due("one day: the first holds", first.inTurn(1, 2), 0);
        Check.due("two days: the second paid 2", first.inTurn(2, 2), 1);
        Check.due("three days: 9 and 18 - 3", first.inTurn(3, 2), 0);
        UnsoldPrice one = open("sn1;b;lf9");
        Check.due("one seller holds always", one.inTurn(30, 1), -30);
        Check.due("holds of its own do not matter", one.hold(0, true), true);
        Check.due("one seller holds always", one.inTurn(30, 1), -30);
    }

    private static void bribeOfWhoDoNotHold() {
        UnsoldPrice x = open("sn1;sn1;sn1;sn1;sn1;bv9m4;lf9");
        Check.due("the last sells nothing", x.bribe(1, 0), 4);
        Check.due("for nothing", x.bribe(1, 1), 0);
        x.hold(4, true);
        Check.due("of several the lowest", x.bribe(1, 0), 0);
        Check.due("what it sells", x.bribe(1, 1), 9);
        for (int s = 0; s < 3; s++) {
            x.hold(s, true);
            Check.due("the next", x.bribe(1, 0), s + 1);
        }
        x.hold(3, true);
        Check.due("all hold", x.bribe(1, 0), NONE);
        Check.due("all hold", x.bribe(1, 1), HIDDEN);
        Check.due("all hold, no such what", x.bribe(1, 2), HIDDEN);
        Check.due("all hold, no days", x.bribe(0, 0), HIDDEN);
        UnsoldPrice less = open("sn9c20;bv5m9;lf5", "y:0");
        Check.due("a wage below 0", less.bribe(30, 1), -180 * 19);
        UnsoldPrice paid = open("sn1c1;sn9c20;bv5m9;bv5m9;lf5", "y:4", "y:0");
        Check.due("the least is below 0", paid.bribe(12, 0), 1);
        Check.due("the least is below 0", paid.bribe(12, 1), -180);
        Check.due("eleven days: 0", paid.bribe(11, 1), 0);
    }

    private static void spreadOfDays() {
        UnsoldPrice x = open("sn9;bv1m1;lf20", "y:p-1");
        for (int n = 1; n <= 30; n++) {
            int last = Math.max(0, 20 - n);
            Check.due("spread of " + n, x.spread(n, 0), 20 - last);
            Check.due("sum of " + n, x.spread(n, 1), (20 * 19 - last * (last - 1)) / 2);
        }
        x.days(30);
        Check.due("0", x.spread(30, 0), 0);
        Check.due("0", x.spread(30, 1), 0);
        UnsoldPrice same = open("sn0;b;lf20");
        Check.due("the board as it is is not in the sum", same.spread(1, 1), 20);
        Check.due("600 at most", same.spread(30, 1), 600);
    }

    private static void servedNotWhoWaits() {
        for (int waits = 0; waits <= 3; waits++) {
            UnsoldPrice x = open("sn0;bv9m9w" + waits + ";lf5");
            for (int n = 1; n <= 30; n++) {
                Check.due("none buys", x.served(0, n, 0), 0);
                Check.due("who waits still is not gone", x.served(0, n, 1),
                        9 * Math.max(0, n - waits));
            }
        }
        UnsoldPrice six = open("sn6c0;bv9m1;bv9m1;bv9m1;bv9m1;bv9m1;bv9m2;lf5");
        for (int sort = 0; sort < 6; sort++) {
            Check.due("one buys", six.served(sort, 30, 0), 30);
            Check.due("one of two goes", six.served(sort, 30, 1), sort == 5 ? 30 : 0);
        }
        Check.due("a seventh", six.served(6, 1, 0), NONE);
        Check.due("-1", six.served(-1, 1, 0), NONE);
    }

    /** The board is free behind n days if each of them had a feast, else less. */
    private static UnsoldPrice allFeasts(int risk) {
        UnsoldPrice x = open("sn4;bv9m2;lf8", "y:p-1");
        x.risk(risk);
        return x;
    }

    private static void oddsOfParts() {
        for (int risk : new int[] {0, 1, 2, 10, 33, 50, 99, 100}) {
            UnsoldPrice x = allFeasts(risk);
            long parts = ALL;
            for (int n = 1; n <= 10; n++) {
                parts = parts * risk / 100;
                Check.due("risk " + risk + ", feasts on all of " + n, x.odds(n, 8), parts);
                Check.due("no part is lost", x.odds(n, 0), ALL);
            }
            Check.due("no days", x.odds(0, 0), NONE);
            Check.due("eleven days", x.odds(11, 0), NONE);
        }
        UnsoldPrice cut = allFeasts(10);
        Check.due("one part of nine days", cut.odds(9, 8), 1);
        Check.due("0.1 is cut", cut.odds(10, 8), 0);
        UnsoldPrice one = allFeasts(1);
        Check.due("ten parts of four days", one.odds(4, 8), 10);
        Check.due("0.1 is cut", one.odds(5, 8), 0);
        UnsoldPrice unlike = open("sn3c0r9;bv9m2;lf8", "y:5");
        unlike.risk(33);
        // Parts that are alike are not put together: each is cut for itself.
        Check.due("of 330000000", unlike.odds(1, 8), 330000000);
        long all = ALL;
        for (int n = 1; n <= 10; n++) {
            Check.due("each part is cut", unlike.odds(n, 8), lastFeasts(n, all));
        }
    }

    private static long lastFeasts(int n, long parts) {
        long feasts = parts * 33 / 100;
        return n == 1 ? feasts : lastFeasts(n - 1, feasts) + lastFeasts(n - 1, parts - feasts);
    }

    private static void oddsOfPrice() {
        UnsoldPrice x = open("sn9;bv1m1;lf20", "y:p-1");
        x.risk(50);
        Check.due("like the price", x.odds(1, 19), ALL);
        Check.due("one more", x.odds(1, 20), 0);
        Check.due("price 21", x.odds(1, 21), NONE);
        Check.due("price 0", x.odds(10, 0), ALL);
        Check.due("price -1", x.odds(1, -1), NONE);
        Check.due("ten days", x.odds(10, 10), ALL);
        Check.due("ten days", x.odds(10, 11), 0);
    }

    private static void loneOfTheBoard() {
        for (int free = 0; free <= 20; free++) {
            UnsoldPrice x = open("sn1c0;sn9;bv20m1;lf" + free);
            Check.due("the board at most", x.lone(0, 0), free);
            Check.due("takes it", x.lone(0, 1), free);
        }
        UnsoldPrice x = open("sn3c20;sn9;bv12m1;bv6m1;bv4m1;lf20", "y:1", "y:1");
        Check.due("12, two at 6 or three at 4: the lowest", x.lone(0, 0), 4);
        Check.due("takes 12, costs apart", x.lone(0, 1), 12);
        x.hold(0, true);
        Check.due("it does not hold for that", x.lone(0, 1), 12);
        Check.due("no such one", x.lone(2, 0), NONE);
        Check.due("no such one", x.lone(-1, 0), NONE);
        Check.due("nothing to sell: 0", open("sn0;b").lone(0, 0), 0);
        Check.due("nothing to sell: 0", open("sn0;b").lone(0, 1), 0);
        Check.due("nobody pays: 0", open("s;bv0m1").lone(0, 0), 0);
        Check.due("nobody pays: 0", open("s;bv0m1").lone(0, 1), 0);
    }

    private static void glutOfMoreThanNew() {
        for (int rot = 0; rot <= 9; rot++) {
            // Four a day, none sold: what did not rot of four is above four on the second day.
            UnsoldPrice x = open("sn4r" + rot + ";bv0m1;lf9");
            Check.due("like its new is no glut", x.glut(1, 0), 0);
            Check.due("rot " + rot, x.glut(2, 0), rot < 4 ? 1 : 0);
            Check.due("rot " + rot, x.glut(30, 0), rot < 4 ? 29 : 0);
        }
        UnsoldPrice none = open("sn0;sn0;b;lf9");
        Check.due("none", none.glut(30, 0), 0);
        Check.due("of several the lowest", none.glut(30, 1), 0);
        UnsoldPrice rots = open("sn9r9;sn1r0;bv0m1;lf9");
        Check.due("behind the night", rots.glut(1, 1), 1);
        UnsoldPrice last = open("sn1;sn1;sn1;sn1;sn2;bv0m1;lf9");
        Check.due("the last", last.glut(1, 1), 4);
        Check.due("some seller: a day counts once", last.glut(2, 0), 1);
        UnsoldPrice most = open("sn9;sn8;bv0m1;lf9");
        Check.due("the first has more", most.glut(12, 1), 0);
        Check.due("both have 99: the lowest", most.glut(13, 1), 0);
        UnsoldPrice second = open("sn8;sn9;bv0m1;lf9");
        Check.due("the second has more", second.glut(12, 1), 1);
        Check.due("both have 99: the lowest", second.glut(13, 1), 0);
    }

    private static void imageInsteadOfTheOneAhead() {
        UnsoldPrice x = open("s;bv1m1;lf9", "y:p-1");
        Check.due("no image", x.back(), NONE);
        Check.due("refused, the day stays", x.count(4), 0);
        Check.due("an image of day 0", x.image(), 0);
        Check.due("back at once", x.back(), 0);
        x.days(3);
        Check.due("back", x.back(), 0);
        Check.due("the board", x.count(5), 9);
        Check.due("asked: no day yet", x.seller(0, 8), NONE);
        x.days(2);
        Check.due("another", x.image(), 2);
        x.days(30);
        Check.due("the later one", x.back(), 2);
        Check.due("the board", x.count(5), 7);
        Check.due("once more", x.back(), 2);
    }

    private static void imageOfThisMarket() {
        UnsoldPrice x = open("s;b;lf9");
        x.days(2);
        x.image();
        Check.tape(x, "s;");
        Check.due("refused", x.text(0), NONE);
        Check.due("the image stays", x.back(), 2);
        Check.tape(x, "y:1");
        Check.due("a rule", x.text(1), 0);
        Check.due("the image stays", x.back(), 2);
        Check.due("the rule stays", x.count(2), 1);
        Check.market(x, "s;b;lf9");
        Check.due("of another market", x.back(), NONE);
        Check.due("refused, the day stays", x.count(4), 0);
        Check.due("of this one", x.image(), 0);
        Check.due("of this one", x.back(), 0);
    }

    private static void countWithoutMarket() {
        UnsoldPrice x = new UnsoldPrice();
        Check.rule(x, "y:1");
        Check.tape(x, "ab");
        int[] want = {0, 0, 1, 2, 0, 0, 0, 0, 0, 0, 0};
        for (int what = 0; what < want.length; what++) {
            Check.due("count(" + what + ") without a market", x.count(what), want[what]);
        }
        for (int what : new int[] {-1, 11, -2, 12, 256, Integer.MIN_VALUE, Integer.MAX_VALUE}) {
            Check.due("count(" + what + ")", x.count(what), HIDDEN);
        }
        Check.market(x, "s;s;b;lf20q2");
        int[] then = {2, 1, 1, 0, 0, 20, 0, 0, 0, 20, 2};
        for (int what = 0; what < then.length; what++) {
            Check.due("count(" + what + ")", x.count(what), then[what]);
        }
    }

    /** Calls of feed with so many bytes behind so many on the tape. */
    private static void tapeOf160() {
        for (int has = 139; has <= 160; has++) {
            for (int more = 0; more <= 20; more++) {
                UnsoldPrice x = new UnsoldPrice();
                Check.due("bytes", Check.tape(x, "s;b" + " ".repeat(has - 3)), has);
                int[] w = new int[5];
                for (int k = 0; k < more; k++) {
                    // Bytes of 0 stand ahead of, behind and between the others.
                    int place = 19 - k;
                    w[place / 4] |= ' ' << 8 * (place % 4);
                }
                boolean fits = has + more <= 160;
                Check.due(more + " behind " + has, x.feed(w[0], w[1], w[2], w[3], w[4]),
                        fits ? has + more : NONE);
                Check.due("the tape has", x.count(3), fits ? has + more : has);
                Check.due("one less fits", x.end(has), true);
                Check.due("one more than it has", x.end(has + 1), false);
                Check.due("a market", x.text(0), 1);
            }
        }
        UnsoldPrice zeros = new UnsoldPrice();
        for (int k = 0; k < 20; k++) {
            Check.due("bytes of 0 are left out", zeros.feed(0, 0, 0, 0, 0), 0);
        }
    }

    /** All of an object's calls answer alike, the last one, too. */
    private static void callsUpTo512() {
        UnsoldPrice x = new UnsoldPrice();
        Check.tape(x, "y:1+2*3-[p/4]=5|g<6&!u>w?c+d-7;y:p-1;y:[[[[[[[");
        for (int k = 0; k < 500; k++) {
            Check.due("the fault of a rule once more", x.fault(1), 45);
        }
        UnsoldPrice free = open("sn0;lf20;b", "y:d/1000");
        for (int k = 1; k <= 501; k++) {
            free.days(30);
        }
        Check.due("d of day 15029", free.seller(0, 8), 15);
        Check.due("the day", free.count(4), 15030);
    }
}
