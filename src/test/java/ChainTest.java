// Promises 8, 11 to 14 and 17: blocks that arrive, valid chains, the tip, and what is ACTIVE.
public final class ChainTest {
    private static final int LEAST = Integer.MIN_VALUE, MOST = Integer.MAX_VALUE;
    private static final int MADE = 0, WAITS = 1, INVALID = 2, ASIDE = 3, ACTIVE = 4;

    public static void main(String[] args) {
        deliverCounts();
        leastNumberArrivesFirst();
        tipHasTheMostWork();
        tipIsValid();
        blockOutside();
        rewardsHalve();
        rewardsHaveFees();
        transactionsOncePerChain();
        rewardsAreSpentTwoBlocksLater();
        coinsStandBefore();
        coinsAreSpentOnce();
        feesAreNotBelowZero();
        activeCoins();
        reorganisation();
        balances();
        Due.end();
    }

    private static void deliverCounts() {
        CoinNode x = new CoinNode();
        for (int b : new int[] {LEAST, -1, 0, 1, 32, MOST}) Due.is("deliver " + b, x.deliver(b), CoinNode.BAD);
        for (int b = 0; b < 3; b++) x.mine(b, 1, 0);
        x.mine(1, 1, 0);
        Due.is("not delivered", x.block(3, 0), MADE);
        Due.is("deliver 3", x.deliver(3), 0);
        Due.is("deliver 3 again", x.deliver(3), CoinNode.BAD);
        Due.is("3 waits", x.block(3, 0), WAITS);
        Due.is("deliver 4", x.deliver(4), 0);
        Due.is("nothing is ACTIVE by that", x.active(1), -1);
        Due.is("deliver 1", x.deliver(1), 2);
        Due.is("3 still waits for 2", x.block(3, 0), WAITS);
        Due.is("2 was not delivered", x.block(2, 0), MADE);
        Due.is("4 is ACTIVE", x.active(2), 4);
        Due.is("deliver 2", x.deliver(2), 2);
        Due.is("deliver 2 again", x.deliver(2), CoinNode.BAD);
        Due.is("3 is the tip", x.active(3), 3);
        Due.is("4 is aside", x.block(4, 0), ASIDE);
    }

    private static void leastNumberArrivesFirst() {
        CoinNode x = new CoinNode();
        x.mine(0, 1, 0);
        x.mine(1, 2, 0);
        x.mine(1, 2, 0);
        x.deliver(3);
        x.deliver(2);
        Due.is("three arrive", x.deliver(1), 3);
        Due.is("2 arrived before 3, which was delivered before", x.active(2), 2);
        CoinNode y = new CoinNode();
        y.mine(0, 1, 0);
        y.mine(0, 2, 0);
        y.mine(1, 1, 0);
        y.deliver(2);
        y.deliver(3);
        y.deliver(1);
        Due.is("of the same work: 2 arrived before 3", y.active(1), 2);
        Due.is("3 is aside", y.block(3, 0), ASIDE);
    }

    private static void tipHasTheMostWork() {
        CoinNode x = new CoinNode();
        x.mine(0, 3, 0);
        x.mine(0, 1, 0);
        x.mine(2, 2, 0);
        x.mine(3, 1, 0);
        x.deliver(1);
        x.deliver(2);
        x.deliver(3);
        Due.is("of the same work the first stays, though lower", x.active(1), 1);
        Due.is("and there is no height 2", x.active(2), -1);
        Due.is("deliver 4", x.deliver(4), 1);
        for (int h = 0; h < 4; h++) Due.is("active(" + h + ")", x.active(h), h == 0 ? 0 : h + 1);
        for (int h : new int[] {LEAST, -1, 4, 31, 32, MOST}) Due.is("active(" + h + ")", x.active(h), -1);
        Due.is("1 is aside", x.block(1, 0), ASIDE);
        x.mine(0, 9, 0);
        x.deliver(5);
        Due.is("a lower chain of more work", x.active(1), 5);
        Due.is("has no height 2", x.active(2), -1);
        Due.is("4 is aside", x.block(4, 0), ASIDE);
        Due.is("work of 4's chain", x.block(4, 2), 5);
        Due.is("work of 5's chain", x.block(5, 2), 10);
    }

    private static void tipIsValid() {
        CoinNode x = Steps.nodeOfHeight(1);
        int t = Steps.spend(x, 121, 1);
        int bad = Steps.mined(x, 1, 9, t);
        Due.is("not valid", x.block(bad, 0), INVALID);
        Due.is("no reward", x.block(bad, 3), 0);
        Due.is("height", x.block(bad, 1), 2);
        Due.is("work", x.block(bad, 2), 11);
        x.mine(bad, 9, 0);
        x.mine(3, 9, 0);
        x.deliver(4);
        Due.is("waits", x.block(4, 0), WAITS);
        Due.is("blocks behind it arrive", x.deliver(3), 2);
        Due.is("and are not valid", x.block(3, 0), INVALID);
        Due.is("and are not valid", x.block(4, 0), INVALID);
        Due.is("reward of such", x.block(4, 3), 0);
        Due.is("the tip stays", x.active(1), 1);
        Due.is("the tip stays", x.active(2), -1);
        Due.is("the transaction is not ACTIVE", x.at(t), -1);
        Due.is("its output is not ACTIVE", x.coin(0), 0);
        Due.is("a valid one on the tip", Steps.grow(x, 1), 5);
        Due.is("is ACTIVE", x.active(2), 5);
    }

    private static void blockOutside() {
        CoinNode x = new CoinNode();
        for (int b : new int[] {LEAST, -1, 1, 31, 32, MOST}) Due.is("block " + b, x.block(b, 0), CoinNode.BAD);
        for (int w : new int[] {LEAST, -1, 4, MOST}) Due.is("block(0, " + w + ")", x.block(0, w), CoinNode.BAD);
        x.mine(0, 5, 0);
        Due.is("no reward before it arrives", x.block(1, 3), 0);
        x.mine(1, 1, 0);
        x.deliver(2);
        Due.is("no reward while it waits", x.block(2, 3), 0);
        x.deliver(1);
        Due.is("reward", x.block(2, 3), 64);
    }

    private static void rewardsHalve() {
        CoinNode x = Steps.nodeOfHeight(31);
        int[] due = {64, 32, 16, 8, 4, 2, 1, 0};
        long sum = 0;
        for (int h = 0; h < 32; h++) {
            Due.is("reward of height " + h, x.block(h, 3), due[h / 4]);
            Due.is("its height", x.block(h, 1), h);
            Due.is("its work", x.block(h, 2), h + 1);
            Due.is("it is ACTIVE", x.active(h), h);
            Due.is("its coin", x.coin(120 + h), 2);
            sum += due[h / 4];
        }
        Due.is("all rewards", x.balance(0), sum);
    }

    private static void rewardsHaveFees() {
        CoinNode x = Steps.nodeOfHeight(3);
        int t = Steps.spend(x, 120, 20, 30);
        int u = Steps.spend(x, 1, 25);
        int b = Steps.mined(x, 3, 1, t, u);
        Due.is("32 and the fees 14 and 5", x.block(b, 3), 51);
        int c = Steps.grow(x, b);
        int v = Steps.spend(x, 120 + b, 51);
        Due.is("the fees can be spent", x.block(Steps.mined(x, c, 1, v), 0), ACTIVE);
        int w = Steps.spend(x, 120 + c, 33);
        Steps.grow(x, x.active(6));
        Due.is("but no more", x.block(Steps.mined(x, x.active(7), 1, w), 0), INVALID);
    }

    private static void transactionsOncePerChain() {
        CoinNode x = Steps.nodeOfHeight(2);
        int t = Steps.spend(x, 120, 60);
        int a = Steps.mined(x, 2, 1, t);
        Due.is("once", x.block(a, 0), ACTIVE);
        int b = Steps.mined(x, a, 1, t);
        Due.is("twice in a chain", x.block(b, 0), INVALID);
        int c = Steps.mined(x, 2, 1, t);
        Due.is("in another chain", x.block(c, 0), ASIDE);
        Due.is("at", x.at(t), 3);
        for (int n : new int[] {LEAST, -1, 1, 39, 40, MOST}) Due.is("at(" + n + ")", x.at(n), -1);
    }

    private static void rewardsAreSpentTwoBlocksLater() {
        CoinNode x = Steps.nodeOfHeight(2);
        int t = Steps.spend(x, 121, 1);
        int u = Steps.spend(x, 122, 1);
        Due.is("one block behind", x.block(Steps.mined(x, 2, 1, u), 0), INVALID);
        Due.is("two blocks behind", x.block(Steps.mined(x, 2, 1, t), 0), ACTIVE);
        Due.is("two blocks behind, the coin of 2", x.block(Steps.mined(x, 4, 1, u), 0), ACTIVE);
        CoinNode z = new CoinNode();
        int w = Steps.spend(z, 120, 1);
        Due.is("the reward of block 0, one block behind", z.block(Steps.mined(z, 0, 1, w), 0), INVALID);
        int one = Steps.grow(z, 0);
        Due.is("the reward of block 0, two blocks behind", z.block(Steps.mined(z, one, 1, w), 0), ACTIVE);
        CoinNode y = Steps.nodeOfHeight(3);
        int other = Steps.grow(y, 0);
        int v = Steps.spend(y, 120 + other, 1);
        Due.is("reward of a block of another chain", y.block(Steps.mined(y, 3, 1, v), 0), INVALID);
    }

    private static void coinsStandBefore() {
        CoinNode x = Steps.nodeOfHeight(2);
        int t = Steps.spend(x, 120, 60);
        int u = Steps.spend(x, 0, 50);
        Due.is("a coin of no block", x.block(Steps.mined(x, 2, 1, u), 0), INVALID);
        Due.is("a coin of a later one", x.block(Steps.mined(x, 2, 1, u, t), 0), INVALID);
        int both = Steps.mined(x, 2, 1, t, u);
        Due.is("a coin of one before in the block", x.block(both, 0), ACTIVE);
        Due.is("at", x.at(u), 3);
        int first = Steps.mined(x, 2, 1, t);
        int other = Steps.mined(x, 2, 1);
        Due.is("a coin of a lower block", x.block(Steps.mined(x, first, 1, u), 0), ACTIVE);
        Due.is("at", x.at(u), 4);
        Due.is("a coin of a block of another chain", x.block(Steps.mined(x, other, 9, u), 0), INVALID);
    }

    private static void coinsAreSpentOnce() {
        CoinNode x = Steps.nodeOfHeight(2);
        int t = Steps.spend(x, 120, 60);
        int u = Steps.spend(x, 120, 50);
        Due.is("twice in a block", x.block(Steps.mined(x, 2, 1, t, u), 0), INVALID);
        int a = Steps.mined(x, 2, 1, t);
        Due.is("twice in a chain", x.block(Steps.mined(x, a, 1, u), 0), INVALID);
        Due.is("once in another", x.block(Steps.mined(x, 2, 2, u), 0), ACTIVE);
        Due.is("u is ACTIVE", x.at(u), 3);
        Due.is("t is not", x.at(t), -1);
    }

    private static void feesAreNotBelowZero() {
        CoinNode x = Steps.nodeOfHeight(2);
        int t = Steps.spend(x, 120, 32, 33);
        int u = Steps.spend(x, 120, 32, 32);
        Due.is("a fee of -1", x.block(Steps.mined(x, 2, 1, t), 0), INVALID);
        int b = Steps.mined(x, 2, 1, u);
        Due.is("a fee of 0", x.block(b, 0), ACTIVE);
        Due.is("the reward with it", x.block(b, 3), 64);
        x.input(0 + 3 * u, 1, 1);
        x.input(1 + 3 * u, 1, 1);
        x.input(121, 1, 1);
        x.output(128, 0);
        Due.is("three coins in one", x.block(Steps.mined(x, b, 1, x.make()), 0), ACTIVE);
    }

    private static void activeCoins() {
        CoinNode x = Steps.nodeOfHeight(2);
        int t = Steps.spend(x, 120, 10, 20);
        Due.is("output before it is ACTIVE", x.coin(0), 0);
        Due.is("the coin it will spend", x.coin(120), 2);
        x.offer(t);
        Due.is("output in the pool", x.coin(0), 0);
        Due.is("coin spent in the pool", x.coin(120), 2);
        Steps.mined(x, 2, 1, t);
        Due.is("output 0", x.coin(0), 2);
        Due.is("output 1", x.coin(1), 2);
        Due.is("no output 2", x.coin(2), 0);
        Due.is("the coin it spent", x.coin(120), 1);
        Due.is("a reward too young to be spent", x.coin(123), 2);
        x.mine(3, 1, 0);
        Due.is("reward of a block not delivered", x.coin(124), 0);
        for (int c : new int[] {LEAST, -1, 125, 151, 152, MOST}) Due.is("coin(" + c + ")", x.coin(c), 0);
    }

    private static void reorganisation() {
        CoinNode x = Steps.nodeOfHeight(2);
        int t = Steps.spend(x, 120, 60);
        int u = Steps.spend(x, 121, 50);
        int a = Steps.mined(x, 2, 1, t);
        int b = Steps.mined(x, 2, 2, u);
        Due.is("b", x.active(3), b);
        Due.is("a", x.block(a, 0), ASIDE);
        Due.is("its reward is told still", x.block(a, 3), 68);
        Due.is("t", x.at(t), -1);
        Due.is("u", x.at(u), 3);
        Due.is("coin of t", x.coin(0), 0);
        Due.is("coin of u", x.coin(3), 2);
        Due.is("coin that t spent", x.coin(120), 2);
        Due.is("coin that u spent", x.coin(121), 1);
        Due.is("reward of a", x.coin(120 + a), 0);
        Due.is("reward of b", x.coin(120 + b), 2);
        Steps.mined(x, a, 2);
        Due.is("back: a", x.active(3), a);
        Due.is("back: t", x.at(t), 3);
        Due.is("back: u", x.at(u), -1);
        Due.is("back: reward of b", x.coin(120 + b), 0);
    }

    private static void balances() {
        CoinNode x = new CoinNode();
        x.deliver(x.mine(0, 1, 7));
        x.mine(1, 1, 7);
        Due.is("rewards that are ACTIVE alone", x.balance(7), 64);
        x.deliver(2);
        Due.is("two rewards", x.balance(7), 128);
        x.input(120, 1, 1);
        x.input(121, 1, 1);
        x.output(100, 3);
        x.output(20, 3);
        x.output(5, 0);
        x.offer(x.make());
        Due.is("the pool counts for nothing", x.balance(3), 0);
        Due.is("the pool counts for nothing", x.balance(0), 64);
        Steps.grow(x, 2);
        x.forge(1, 6);
        Due.is("outputs", x.balance(3), 120);
        Due.is("an output and a reward, one spent", x.balance(0), 69);
        Due.is("one of two is spent", x.balance(7), 64);
        Due.is("32 and the fee 3", x.balance(6), 35);
        for (int s : new int[] {LEAST, -1, 1, 8, MOST}) Due.is("balance(" + s + ")", x.balance(s), 0);
    }
}
