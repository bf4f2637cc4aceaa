import java.util.ArrayList;
import java.util.List;

/** Each sentence of the document that bounds a text: the last that is allowed, the first that is not. */
public final class TextBoundsTest {
    private static final int NONE = UnsoldPrice.NONE;
    /** Letter, the clause it stands in, the least and the most it may be told, what it is without. */
    private static final Object[][] ITEMS = {
        {'n', 's', 0, 9, 3}, {'c', 's', 0, 20, 1}, {'r', 's', 0, 9, 0},
        {'v', 'b', 0, 20, 10}, {'m', 'b', 1, 9, 2}, {'w', 'b', 0, 3, 0},
        {'q', 'l', 0, 2, 0}, {'f', 'l', 0, 20, 12}};

    private TextBoundsTest() {
    }

    public static void main(String[] args) {
        sellersOneToFive();
        sortsOneToSix();
        oneLawAtMost();
        endsTooEarly();
        clausesInAnyOrder();
        eachLetterOnce();
        lettersOfOtherClauses();
        numbersOfItems();
        threeDigits();
        digitsAlone();
        itemsNotTold();
        blanks();
        onlyThirtyTwoIsBlank();
        rulesFiveAtMost();
        oneClauseAtLeast();
        numbersOfRules();
        sixWithinOneAnother();
        sideBySide();
        conditionsBehindColon();
        withinAMillion();
        divisions();
        worthWithoutClause();
        heldWithinTheBoard();
        wholeTape();
        Check.finish();
    }

    private static void fault(int sort, String text, int want) {
        UnsoldPrice x = new UnsoldPrice();
        Check.due("fault(" + sort + ") of '" + text + "'", Check.fault(x, sort, text), want);
        Check.due("the tape stays behind '" + text + "'", x.count(3), text.length());
        int made = x.text(sort);
        Check.due("text(" + sort + ") of '" + text + "' is refused", made == NONE, want != NONE);
        Check.due("the tape behind it", x.count(3), want == NONE ? 0 : text.length());
    }

    private static String many(String part, int times) {
        return part.repeat(times);
    }

    // ---- markets ----

    private static void sellersOneToFive() {
        fault(0, "b", 1);
        for (int k = 1; k <= 5; k++) {
            fault(0, many("s;", k) + "b", NONE);
            fault(0, "b" + many(";s", k), NONE);
            Check.due(k + " sellers", Check.market(new UnsoldPrice(), many("s;", k) + "b"), k);
        }
        fault(0, many("s;", 6) + "b", 10);
        fault(0, "b" + many(";s", 6), 12);
        fault(0, many("s;", 3) + "b;" + many("s;", 3), 12);
        fault(0, many("s ; ", 5) + " s;b", 21);
        fault(0, many("s;", 5) + "s", 10);
        fault(0, many("s;", 5) + "sx", 10);
    }

    private static void sortsOneToSix() {
        fault(0, "s", 1);
        for (int k = 1; k <= 6; k++) {
            fault(0, "s" + many(";b", k), NONE);
            UnsoldPrice x = new UnsoldPrice();
            Check.market(x, many("b;", k) + "s");
            Check.due("sorts", x.count(1), k);
        }
        fault(0, "s" + many(";b", 7), 14);
        fault(0, many("b;", 7) + "s", 12);
        fault(0, many("b;", 6) + "s;b", 14);
        fault(0, many("s;", 5) + many("b;", 6) + "l", NONE);
        fault(0, many("s;", 5) + many("b;", 6) + "l;b", 24);
        fault(0, many("s;", 5) + many("b;", 6) + "l;s", 24);
        // With all clauses there are, the one too many is wrong, not the sign ahead of it.
        fault(0, many("s;", 5) + many("b;", 6) + "l;l", 24);
        fault(0, many("s;", 5) + many("b;", 6) + "l;", 24);
        fault(0, many("s;", 5) + many("b;", 6) + "l; ", 25);
    }

    private static void oneLawAtMost() {
        fault(0, "s;b", NONE);
        fault(0, "s;b;l", NONE);
        fault(0, "l;s;b", NONE);
        fault(0, "s;b;l;l", 6);
        fault(0, "l;l;s;b", 2);
        fault(0, "l;s;b;l", 6);
        fault(0, "l", 1);
        fault(0, "l;s", 3);
        fault(0, "l;b", 3);
    }

    private static void endsTooEarly() {
        fault(0, "", 0);
        fault(0, " ", 1);
        fault(0, many(" ", 160), 160);
        fault(0, ";", 0);
        fault(0, "s;", 2);
        fault(0, "s;b;", 4);
        fault(0, "s;b; ", 5);
        fault(0, "s;b;;", 4);
        fault(0, "s;b;s", NONE);
        fault(0, "s;bv", 4);
        fault(0, "s;bv ", 5);
        fault(0, "s;bv;", 4);
        fault(0, "s ", 2);
        fault(0, "s;b ", NONE);
        fault(1, "", 0);
        fault(1, " ", 1);
        fault(1, many(" ", 160), 160);
        fault(1, "y", 1);
        fault(1, "y:", 2);
        fault(1, "y: ", 3);
        fault(1, "y:1;", 4);
        fault(1, "y:1; ", 5);
        fault(1, "y:1+", 4);
        fault(1, "y:1*", 4);
        fault(1, "y:1=", 4);
        fault(1, "y:1=2", 5);
        fault(1, "y:1=2&", 6);
        fault(1, "y:1=2|", 6);
        fault(1, "y:1=2?", 6);
        fault(1, "y:!", 3);
        fault(1, "y:(", 3);
        fault(1, "y:[", 3);
        fault(1, "y:[1", 4);
        fault(1, "y:(1=2", 6);
    }

    private static void clausesInAnyOrder() {
        for (String text : List.of("s;b;l", "s;l;b", "b;s;l", "b;l;s", "l;s;b", "l;b;s", "s;b;s;b;l")) {
            fault(0, text, NONE);
        }
        UnsoldPrice x = new UnsoldPrice();
        Check.market(x, "bv1;sn1;lf3;bv2;sn2");
        Check.due("the first seller", x.seller(0, 0), 1);
        Check.due("the second seller", x.seller(1, 0), 2);
        Check.due("the first sort", x.buyers(0, 0), 1);
        Check.due("the second sort", x.buyers(1, 0), 2);
        Check.due("free", x.count(9), 3);
    }

    /** A clause with the other two kinds ahead of it, so that a text ends behind it. */
    private static String ahead(char clause) {
        return clause == 's' ? "b;s" : clause == 'b' ? "s;b" : "s;b;l";
    }

    private static void eachLetterOnce() {
        for (Object[] item : ITEMS) {
            String head = ahead((char) item[1]);
            String told = item[0] + "1";
            fault(0, head + told, NONE);
            fault(0, head + told + told, head.length() + 2);
            fault(0, head + " " + told + " " + told, head.length() + 4);
            fault(0, head + told + item[0], head.length() + 2);
            for (Object[] other : ITEMS) {
                if (other[1] == item[1] && other[0] != item[0]) {
                    fault(0, head + told + other[0] + "1", NONE);
                    fault(0, head + told + other[0] + "1" + told, head.length() + 4);
                }
            }
            if ((char) item[1] != 'l') {
                fault(0, head + told + ";" + item[1] + told, NONE);
            }
        }
    }

    private static void lettersOfOtherClauses() {
        for (Object[] item : ITEMS) {
            for (char clause : "sbl".toCharArray()) {
                if (clause != (char) item[1]) {
                    fault(0, ahead(clause) + item[0] + "1", ahead(clause).length());
                }
            }
        }
        for (int sign = 1; sign < 256; sign++) {
            boolean begins = "sbl".indexOf(sign) >= 0;
            fault(0, (char) sign + "", begins || sign == ' ' ? 1 : 0);
            boolean goesOn = " ;ncr".indexOf(sign) >= 0;
            fault(0, "b;s" + (char) sign + "x", goesOn ? 4 : 3);
        }
    }

    /** What a letter is told, asked of the market that was made. */
    private static int told(UnsoldPrice x, char letter) {
        switch (letter) {
            case 'n':
                return x.seller(0, 0);
            case 'c':
                return x.seller(0, 1);
            case 'r':
                return x.seller(0, 2);
            case 'v':
                return x.buyers(0, 0);
            case 'm':
                return x.buyers(0, 1);
            case 'w':
                return x.buyers(0, 2);
            case 'q':
                return x.count(10);
            default:
                return x.count(9);
        }
    }

    private static void numbersOfItems() {
        for (Object[] item : ITEMS) {
            String head = ahead((char) item[1]) + item[0];
            for (int value = 0; value <= 99; value++) {
                boolean fine = value >= (int) item[2] && value <= (int) item[3];
                if (value < 10) {
                    oneNumber(head, "" + value, fine, (char) item[0], value);
                    oneNumber(head, "0" + value, fine, (char) item[0], value);
                } else {
                    oneNumber(head, "" + value, fine, (char) item[0], value);
                }
            }
            fault(0, head + "-1", head.length());
            fault(0, head + "+1", head.length());
            fault(0, head + "a", head.length());
        }
    }

    /** A number at the text's end, behind which a blank or a clause stands, too. */
    private static void oneNumber(String head, String digits, boolean fine, char letter, int value) {
        String text = head + digits;
        int want = fine ? NONE : text.length() - 1;
        fault(0, text, want);
        fault(0, text + " ", want);
        fault(0, text + ";s", want);
        fault(0, head + " " + digits, fine ? NONE : text.length());
        if (fine) {
            UnsoldPrice x = new UnsoldPrice();
            Check.market(x, text);
            Check.due("told by " + text, told(x, letter), value);
        }
    }

    /** A third digit is wrong itself, whatever stands ahead of it. */
    private static void threeDigits() {
        for (Object[] item : ITEMS) {
            String head = ahead((char) item[1]) + item[0];
            for (int value = 0; value <= 999; value += 7) {
                String digits = "" + (1000 + value);
                fault(0, head + digits.substring(1), head.length() + 2);
            }
            fault(0, head + "000", head.length() + 2);
            fault(0, head + "001", head.length() + 2);
            fault(0, head + "999", head.length() + 2);
            fault(0, head + "0000", head.length() + 2);
            fault(0, head + "1 1", head.length() + 2);
        }
    }

    /** Only 0 to 9 are digits: each other sign in a number's place, and behind a digit. */
    private static void digitsAlone() {
        for (int sign = 1; sign < 256; sign++) {
            char c = (char) sign;
            boolean digit = "0123456789".indexOf(sign) >= 0;
            if (!digit && c != ' ') {
                fault(0, "b;sn" + c, 4);
                fault(0, "b;sc" + c + "1", 4);
                fault(1, "y:" + c + "9", "!([".indexOf(c) >= 0 ? 4 : "pgcduw".indexOf(c) >= 0 ? 3 : 2);
            }
            if (!digit && " ;cr".indexOf(c) < 0) {
                fault(0, "b;sn1" + c, 5);
                fault(0, "b;sn1" + c + "1", 5);
            }
            if (!digit && " ;+-*/=<>".indexOf(c) < 0) {
                fault(1, "y:1" + c, 3);
                fault(1, "y:1" + c + "1", 3);
                fault(1, "y:123" + c + "1", 5);
            }
            if (digit) {
                fault(0, "b;sn" + c, NONE);
                fault(1, "y:" + c, NONE);
            }
        }
    }

    private static void itemsNotTold() {
        UnsoldPrice x = new UnsoldPrice();
        Check.market(x, "s;b");
        for (Object[] item : ITEMS) {
            Check.due(item[0] + " without", told(x, (char) item[0]), (int) item[4]);
        }
        Check.market(x, "sn0c20r9;bv20m9w3;lq2f0");
        Check.market(x, "s;b");
        for (Object[] item : ITEMS) {
            Check.due(item[0] + " without, behind another market", told(x, (char) item[0]),
                    (int) item[4]);
        }
        Check.market(x, "sn0c0r9;s;bv0m9w3;b");
        Check.due("each clause for itself", x.seller(1, 0), 3);
        Check.due("each clause for itself", x.seller(1, 1), 1);
        Check.due("each clause for itself", x.seller(1, 2), 0);
        Check.due("each clause for itself", x.buyers(1, 0), 10);
        Check.due("each clause for itself", x.buyers(1, 1), 2);
        Check.due("each clause for itself", x.buyers(1, 2), 0);
    }

    // ---- both ----

    private static void blanks() {
        String market = "sn10c20r9;bv20m9w3;lq2f19".replace("n10", "n 9");
        fault(0, " s n 9 c 20 r 9 ; b v 20 m 9 w 3 ; l q 2 f 19 ", NONE);
        fault(0, market, NONE);
        fault(0, "s;bv2 0", 6);
        fault(0, "s;bv1 2", 6);
        fault(0, "   s   ;   b   ", NONE);
        fault(1, " y : ! ( p = 1 | g < [ 2 + 3 ] * 4 ) & c > 0 ? 12 - 1 ; y : p / 2 ", NONE);
        fault(1, "y:1 2", 4);
        fault(1, "y:12 34", 5);
        fault(1, "y:1234 5", 7);
        fault(1, "y:  1234  ", NONE);
        UnsoldPrice x = new UnsoldPrice();
        Check.market(x, " s n 9 c 20 r 9 ; b v 20 m 9 w 3 ; l q 2 f 19 ");
        Check.due("new", x.seller(0, 0), 9);
        Check.due("free", x.count(9), 19);
        Check.rule(x, " y : 1 = 2 ? 3 ; y : 12 + [ 2 * 3 ] ");
        x.rule(0, 0);
        x.days(1);
        Check.due("a rule with blanks", x.seller(0, 8), 18);
    }

    private static void onlyThirtyTwoIsBlank() {
        for (int sign = 1; sign < 256; sign++) {
            int want = sign == 32 ? NONE : 3;
            if (";ncrvmw".indexOf(sign) < 0) {
                fault(0, "s;b" + (char) sign, want);
            }
            if (";+-*/=<>0123456789".indexOf(sign) < 0) {
                fault(1, "y:p" + (char) sign, want);
            }
        }
    }

    // ---- rules ----

    private static void rulesFiveAtMost() {
        UnsoldPrice x = new UnsoldPrice();
        // Without goods the board is free each day.
        Check.market(x, "sn0;b;lf20");
        for (int k = 0; k < 5; k++) {
            Check.due("no rule " + k + " yet", x.rule(0, k), false);
            Check.due("rule " + k, Check.rule(x, "y:" + (k + 3)), k);
            Check.due("rules", x.count(2), k + 1);
        }
        Check.due("a sixth", Check.rule(x, "y:9"), NONE);
        Check.due("it has no fault", x.fault(1), NONE);
        Check.due("refused, the tape stays", x.count(3), 3);
        Check.due("refused, there are five", x.count(2), 5);
        Check.due("no sixth", x.rule(0, 5), false);
        for (int k = 0; k < 5; k++) {
            x.rule(0, k);
            x.days(1);
            Check.due("rule " + k + " is as it was", x.seller(0, 8), k + 3);
        }
        Check.due("another market", Check.market(x, "sn0;b;lf20"), 1);
        Check.due("five stay", x.count(2), 5);
        Check.due("still a sixth", Check.rule(x, "y:9"), NONE);
    }

    private static void oneClauseAtLeast() {
        fault(1, ";", 0);
        fault(1, "y:1;;", 4);
        fault(1, "y:1;y:2", NONE);
        fault(1, "y:" + many("1;y:", 39) + "1", NONE);
        for (int sign = 1; sign < 256; sign++) {
            fault(1, (char) sign + "", sign == 'y' || sign == ' ' ? 1 : 0);
            fault(1, "y" + (char) sign, sign == ':' || sign == ' ' ? 2 : 1);
        }
    }

    private static void numbersOfRules() {
        for (String fine : List.of("0", "9", "00", "99", "000", "999", "0000", "9999", "0009")) {
            fault(1, "y:" + fine, NONE);
            fault(1, "y:p+" + fine + ";y:1", NONE);
        }
        for (String wrong : List.of("00000", "00001", "99999", "10000", "12345", "123456")) {
            fault(1, "y:" + wrong, 6);
            fault(1, "y:p=" + wrong, 8);
            fault(1, "y: " + wrong, 7);
        }
        Check.due("9999", worth("y:9999/1000+9"), 18);
        Check.due("0009", worth("y:0009"), 9);
        Check.due("0000", worth("y:0000"), 0);
    }

    private static void sixWithinOneAnother() {
        for (int levels = 1; levels <= 9; levels++) {
            for (int outer = 0; outer <= levels; outer++) {
                for (int set = 0; set < 1 << outer; set++) {
                    nested(levels, outer, set);
                }
            }
        }
    }

    /** Some of ! and ( by a set of bits, then as many [ as there are levels left. */
    private static void nested(int levels, int outer, int set) {
        StringBuilder open = new StringBuilder("y:");
        StringBuilder close = new StringBuilder();
        for (int k = 0; k < outer; k++) {
            boolean not = (set >> k & 1) == 1;
            open.append(not ? '!' : '(');
            close.append(not ? "" : ")");
        }
        String sum = many("[", levels - outer) + "p" + many("]", levels - outer);
        String text = open + sum + (outer > 0 ? "=1" + close + "?2" : "");
        fault(1, text, levels <= 6 ? NONE : 2 + 6);
        if (outer > 0) {
            String second = open + "1=" + sum + close + "?2";
            fault(1, second, levels <= 6 ? NONE : outer > 6 ? 2 + 6 : 2 + 6 + 2);
            fault(1, open + "p=1" + close + "?" + sum, outer > 6 ? 2 + 6 : levels - outer > 6
                    ? outer + close.length() + 12 : NONE);
        }
    }

    /** Who stand beside one another are not within one another. */
    private static void sideBySide() {
        fault(1, "y:[[[[[[1]]]]]]+[[[[[[2]]]]]]*[[[[[[3]]]]]]", NONE);
        fault(1, "y:[[[[[[1]]]]]]+[[[[[[[2]]]]]]]", 22);
        fault(1, "y:[[[[[[1]]]]]]=[[[[[[2]]]]]]?[[[[[[3]]]]]];y:[[[[[[4]]]]]]", NONE);
        fault(1, "y:((((((1=2))))))&((((((1=2))))))|!!!!!!1=2?3", NONE);
        fault(1, "y:((((((1=2))))))&(((((((1=2)))))))?3", 24);
        fault(1, "y:((((((1=2&3=4))))))?3", NONE);
        fault(1, "y:!1=2&!1=2&!1=2&!1=2&!1=2&!1=2&!1=2&!1=2?3", NONE);
        fault(1, "y:!1=[[[[[2]]]]]&[[[[[[2]]]]]]=1?3", NONE);
        fault(1, "y:!1=[[[[[[2]]]]]]?3", 10);
        fault(1, "y:!(1=2)&[[[[[[2]]]]]]=1?3", NONE);
        fault(1, "y:(!1=2|[[[[[2]]]]]=1)?3", NONE);
        fault(1, "y:(!1=2|[[[[[[2]]]]]]=1)?3", 13);
    }

    private static void conditionsBehindColon() {
        fault(1, "y:(1=2)", 7);
        fault(1, "y:(1=2);", 7);
        fault(1, "y:!1=2", 6);
        fault(1, "y:(1)", 4);
        fault(1, "y:(1)+2", 4);
        fault(1, "y:[1]", NONE);
        fault(1, "y:[1]=2", 7);
        fault(1, "y:1=2?(3=4)", 6);
        fault(1, "y:1=2?!3", 6);
        fault(1, "y:1=2?3=4", 7);
        fault(1, "y:1=2?3?4", 7);
        fault(1, "y:1?2", 3);
        fault(1, "y:1|2", 3);
        fault(1, "y:1&2", 3);
        fault(1, "y:1=2=3?4", 5);
        fault(1, "y:1=(2)?4", 4);
        fault(1, "y:1=2&!(3=4)|5=6?7", NONE);
    }

    /** What a rule is worth, asked of a seller below a board of 20. */
    private static int worth(String rule) {
        UnsoldPrice x = new UnsoldPrice();
        Check.market(x, "s;b;lf20");
        Check.due("text(1) of " + rule, Check.rule(x, rule), 0);
        x.rule(0, 0);
        x.days(1);
        return x.seller(0, 8);
    }

    private static void holds(String condition, boolean want) {
        Check.due(condition, worth("y:" + condition + "?1;y:2"), want ? 1 : 2);
    }

    private static void withinAMillion() {
        String most = "1000*1000";
        String least = "0-1000*1000";
        holds("9999*100+99<" + most, true);
        holds("9999*100+100=" + most, true);
        holds("9999*100+101=" + most, true);
        holds("9999*100+9999=" + most, true);
        holds("0-9999*100-99>" + least, true);
        holds("0-9999*100-100=" + least, true);
        holds("0-9999*100-101=" + least, true);
        holds("0-9999*100-9999=" + least, true);
        holds("999*1001<" + most, true);
        holds("1001*1000=" + most, true);
        holds("9999*9999=" + most, true);
        holds("[0-999]*1001>" + least, true);
        holds("[0-1001]*1000=" + least, true);
        holds("[0-9999]*9999=" + least, true);
        holds("[0-9999]*[0-9999]=" + most, true);
        holds("[" + most + "]*[" + most + "]=" + most, true);
        holds("[" + least + "]*[" + most + "]=" + least, true);
        holds("[" + least + "]*[" + least + "]=" + most, true);
        // Behind each sign, not at the end alone.
        holds(most + "+5-5=" + most + "-5", true);
        holds(least + "-5+5=" + least + "+5", true);
        holds("1001*1000-1000=999*1000", true);
        holds("9999*9999/1000=1000", true);
        holds("[" + least + "-1]/1000=0-1000", true);
        holds("0-[" + least + "]=" + most, true);
        holds("[" + most + "]-[" + least + "]=" + most, true);
        holds("[" + least + "]-[" + most + "]=" + least, true);
        holds("[" + most + "]+[" + most + "]=" + most, true);
        holds("[" + least + "]+[" + least + "]=" + least, true);
        holds(most + ">" + least, true);
        holds(most + "<" + least, false);
    }

    private static void divisions() {
        holds("7/2=3", true);
        holds("[0-7]/2=0-3", true);
        holds("7/[0-2]=0-3", true);
        holds("[0-7]/[0-2]=3", true);
        holds("1/2=0", true);
        holds("[0-1]/2=0", true);
        holds("6/2=3", true);
        holds("5/0=0", true);
        holds("0/0=0", true);
        holds("[0-5]/0=0", true);
        holds("5/[3-3]=0", true);
        holds("5/0+4=4", true);
        holds("3+5/0*7=3", true);
        holds("[1000*1000]/[0-1]=0-1000*1000", true);
        holds("[0-1000*1000]/[0-1]=1000*1000", true);
        holds("0/5=0", true);
    }

    private static void worthWithoutClause() {
        Check.due("none holds: 0", worth("y:1=2?9"), 0);
        Check.due("none holds: 0", worth("y:1=2?9;y:2=1?8;y:1>1?7;y:1<1?6"), 0);
        Check.due("the last holds", worth("y:1=2?9;y:2=1?8;y:1=1?7"), 7);
        Check.due("the first holds", worth("y:1=1?9;y:8"), 9);
        Check.due("what stands behind a clause without a condition", worth("y:3;y:1=1?9"), 3);
    }

    private static void heldWithinTheBoard() {
        Check.due("the board", worth("y:p"), 20);
        Check.due("one above", worth("y:p+1"), 20);
        Check.due("one below", worth("y:p-1"), 19);
        Check.due("a million", worth("y:1000*1000"), 20);
        Check.due("0", worth("y:0"), 0);
        Check.due("-1", worth("y:0-1"), 0);
        Check.due("1", worth("y:1"), 1);
        Check.due("minus a million", worth("y:0-1000*1000"), 0);
    }

    /** Texts of 160 bytes, the most that the tape has. */
    private static void wholeTape() {
        String head = "s;b;lf20";
        fault(0, head + many(" ", 160 - head.length()), NONE);
        fault(0, many(" ", 160 - head.length()) + head, NONE);
        fault(0, head + many(" ", 159 - head.length()) + "x", 159);
        fault(0, head + many(" ", 159 - head.length()) + ";", 160);
        List<String> sums = new ArrayList<>(List.of("y:1", "y:p", "y:w"));
        for (String sum : sums) {
            String longest = sum + many("+1", 78);
            fault(1, longest + " ", NONE);
            fault(1, longest + "+", 160);
        }
        fault(1, "y:1=1" + many("&1=1", 38) + "?77", NONE);
        Check.due("78 signs", worth("y:1" + many("+1", 78) + " "), 20);
        Check.due("78 signs", worth("y:1" + many("-1", 77) + "+1 "), 0);
        Check.due("40 conditions", worth("y:1=1" + many("&1=1", 38) + "?17"), 17);
        Check.due("40 conditions", worth("y:1=1" + many("|1=1", 38) + "?17"), 17);
        Check.due("the last does not hold", worth("y:1=1" + many("&1=1", 37) + "&1=2?17"), 0);
        Check.due("40 clauses", worth("y:" + many("0;y:", 39) + "1"), 0);
        String clauses = many("y:1=2?3;", 19);
        Check.due("20 clauses, the last", worth(clauses + "y:2=2?13"), 13);
        Check.due("20 clauses, none", worth(clauses + "y:2=1?13"), 0);
    }
}
