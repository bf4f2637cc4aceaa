import java.util.Random;

/** Faults of texts broken at random, against what the grammar alone says of them. */
public final class FaultTest {
    private FaultTest() {
    }

    public static void main(String[] args) {
        int texts = args.length > 0 ? Integer.parseInt(args[0]) : 1200;
        Random dice = new Random(4);
        RandomTexts random = new RandomTexts(dice);
        UnsoldPrice x = new UnsoldPrice();
        for (int k = 0; k < texts; k++) {
            String market = random.market();
            String rule = random.rule();
            look(x, 0, market);
            look(x, 1, rule);
            look(x, 0, random.broken(market));
            look(x, 1, random.broken(rule));
            look(x, k % 2, random.broken(random.broken(k % 4 < 2 ? market : rule)));
            look(x, 1, nested(dice));
            look(x, 0, shortSigns(dice, "snb;v0129 lqf"));
            look(x, 1, "y:" + shortSigns(dice, "p1+*=?;y:!([])&| "));
        }
        Check.finish();
    }

    private static void look(UnsoldPrice x, int sort, String text) {
        int want = sort == 0 ? MarketFault.of(text) : RuleFault.of(text);
        Check.due("fault(" + sort + ") of '" + text + "'", Check.fault(x, sort, text), want);
    }

    private static String shortSigns(Random dice, String signs) {
        StringBuilder text = new StringBuilder();
        int length = dice.nextInt(12);
        for (int k = 0; k < length; k++) {
            text.append(signs.charAt(dice.nextInt(signs.length())));
        }
        return text.toString();
    }

    /** Signs within one another, about as deep as may be. */
    private static String nested(Random dice) {
        int levels = 5 + dice.nextInt(3);
        StringBuilder open = new StringBuilder();
        StringBuilder close = new StringBuilder();
        int outer = dice.nextInt(levels + 1);
        for (int k = 0; k < outer; k++) {
            boolean not = dice.nextBoolean();
            open.append(not ? '!' : '(');
            close.insert(0, not ? "" : ")");
        }
        StringBuilder sum = new StringBuilder("p");
        for (int k = outer; k < levels; k++) {
            sum.insert(0, '[').append(']');
        }
        return "y:" + open + sum + "=" + (dice.nextBoolean() ? "1" : sum) + close + "?"
                + (dice.nextBoolean() ? "1" : sum);
    }
}
