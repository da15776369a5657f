import java.util.Random;

// No call throws, whatever its arguments and however many calls came before; what these answer is not looked at
// here, but the same calls give the same answers.
public final class WildTest {
    private static final int[] EDGES = {
        Integer.MIN_VALUE, Integer.MAX_VALUE, -1, 0, 1, 2, 3, 7, 8, 9, 10, 12, 13, 31, 32, 39, 40, 119, 120, 151, 152, 1000, 1001,
    };

    public static void main(String[] args) {
        for (int run = 1; run <= 60; run++) Due.is("run " + run, sumOfAnswers(run), sumOfAnswers(run));
        Due.end();
    }

    private static long sumOfAnswers(int run) {
        Random random = new Random(run * 0x9E3779B97F4A7C15L);
        CoinNode x = new CoinNode();
        long sum = 0;
        for (int i = 0; i < 6000; i++) {
            sum = 31 * sum + call(x, random.nextInt(16), number(random), number(random), number(random));
        }
        return sum;
    }

    private static int number(Random random) {
        int kind = random.nextInt(4);
        if (kind == 0) return EDGES[random.nextInt(EDGES.length)];
        return kind == 1 ? random.nextInt(152) : random.nextInt(9);
    }

    private static long call(CoinNode x, int what, int a, int b, int c) {
        switch (what) {
            case 0: return x.token(a, b, c);
            case 1: return x.input(a, b, c);
            case 2: return x.output(a, b);
            case 3: return x.make();
            case 4: return x.put(a);
            case 5: return x.mine(a, b, c);
            case 6: return x.deliver(a);
            case 7: return x.offer(a);
            case 8: return x.forge(a, b);
            case 9: return x.active(a);
            case 10: return x.block(a, b);
            case 11: return x.coin(a);
            case 12: return x.at(a);
            case 13: return x.pool(a);
            case 14: return x.fee(a);
            default: return x.balance(a);
        }
    }
}
