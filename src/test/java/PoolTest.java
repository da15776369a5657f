// Promises 9, 15 and 16: what is OFFERED to the pool, RIVALS, and the pool made anew.
public final class PoolTest {
    private static final int LEAST = Integer.MIN_VALUE, MOST = Integer.MAX_VALUE;

    public static void main(String[] args) {
        refused();
        lateCoins();
        lateFeesAndScripts();
        cheap();
        rivalsAndWhatFollowsThem();
        lateByAnOutputOfARival();
        severalRivals();
        full();
        outside();
        returnsFromTheLowestBlockOn();
        newBlockTakesFromThePool();
        rewardGoesWithItsBlock();
        anewAndFull();
        anewAtEachTip();
        anewByHeight();
        staysWithoutANewTip();
        Due.end();
    }

    private static void refused() {
        CoinNode x = Steps.nodeOfHeight(2);
        for (int t : new int[] {LEAST, -1, 0, 40, MOST}) Due.is("offer " + t, x.offer(t), CoinNode.REFUSED);
        int t = Steps.spend(x, 120, 60);
        Due.is("offer", x.offer(t), 1);
        Due.is("in the pool already", x.offer(t), CoinNode.REFUSED);
        Steps.poolIs("refused", x, t);
        Steps.mined(x, 2, 1, t);
        Due.is("ACTIVE", x.offer(t), CoinNode.REFUSED);
        Steps.poolIs("ACTIVE", x);
    }

    private static void lateCoins() {
        CoinNode x = Steps.nodeOfHeight(3);
        int t = Steps.spend(x, 120, 60);
        int u = Steps.spend(x, 0, 50);
        int young = Steps.spend(x, 123, 1);
        int old = Steps.spend(x, 122, 1);
        Due.is("a coin of no pool transaction", x.offer(u), CoinNode.LATE);
        Due.is("a reward of the tip", x.offer(young), CoinNode.LATE);
        Due.is("a reward of the tip's parent", x.offer(old), 1);
        Due.is("a coin that is ACTIVE", x.offer(t), 2);
        Due.is("a coin of a pool transaction", x.offer(u), 3);
        Steps.poolIs("late", x, old, t, u);
        int again = Steps.spend(x, 120, 1);
        Steps.mined(x, 3, 1, t);
        Due.is("a coin that is spent", x.offer(again), CoinNode.LATE);
        x.mine(0, 1, 0);
        int undelivered = Steps.spend(x, 125, 1);
        Due.is("a reward of a block that is not ACTIVE", x.offer(undelivered), CoinNode.LATE);
        x.deliver(5);
        Due.is("a reward of a block aside", x.offer(undelivered), CoinNode.LATE);
        x.input(121, 1, 1);
        x.input(125, 1, 1);
        x.output(1, 0);
        Due.is("one coin of two is not ACTIVE", x.offer(x.make()), CoinNode.LATE);
        Due.is("the reward of the tip is old enough behind another", x.offer(young), 3);
        CoinNode y = new CoinNode();
        int zero = Steps.spend(y, 120, 1);
        Due.is("the reward of block 0, being the tip", y.offer(zero), CoinNode.LATE);
        Steps.grow(y, 0);
        Due.is("the reward of block 0", y.offer(zero), 1);
    }

    private static void lateFeesAndScripts() {
        CoinNode x = Steps.nodeOfHeight(2);
        int t = Steps.spend(x, 120, 65);
        Due.is("a fee of -1", x.offer(t), CoinNode.LATE);
        x.input(120, 1, 0);
        x.output(1, 0);
        Due.is("a script that does not fit", x.offer(x.make()), CoinNode.LATE);
        x.input(120, 1, 1);
        x.input(121, 1, 0);
        x.output(1, 0);
        Due.is("the second script does not fit", x.offer(x.make()), CoinNode.LATE);
        int u = Steps.spend(x, 120, 32, 32);
        Due.is("a fee of 0", x.offer(u), 1);
        Due.is("its fee", x.fee(0), 0);
        int v = Steps.spend(x, 3 * u, 33);
        Due.is("a fee of -1 with a coin of the pool", x.offer(v), CoinNode.LATE);
    }

    private static void cheap() {
        CoinNode x = Steps.nodeOfHeight(2);
        int t = Steps.spend(x, 120, 60);
        int same = Steps.spend(x, 120, 30, 30);
        int less = Steps.spend(x, 120, 61);
        int more = Steps.spend(x, 120, 59);
        x.offer(t);
        Due.is("the same fee", x.offer(same), CoinNode.CHEAP);
        Due.is("a lower fee", x.offer(less), CoinNode.CHEAP);
        Steps.poolIs("cheap", x, t);
        Due.is("a greater fee", x.offer(more), 1);
        Steps.poolIs("replaced", x, more);
        Due.is("its fee", x.fee(0), 5);
        Due.is("the replaced one", x.offer(t), CoinNode.CHEAP);
        x.input(120, 1, 0);
        x.output(1, 0);
        Due.is("LATE before CHEAP and all", x.offer(x.make()), CoinNode.LATE);
    }

    private static void rivalsAndWhatFollowsThem() {
        CoinNode x = Steps.nodeOfHeight(3);
        int t = Steps.spend(x, 120, 30, 30);
        int child = Steps.spend(x, 3 * t + 1, 28);
        int grandchild = Steps.spend(x, 3 * child, 25);
        int apart = Steps.spend(x, 121, 60);
        x.offer(t);
        x.offer(apart);
        x.offer(child);
        Due.is("four", x.offer(grandchild), 4);
        int same = Steps.spend(x, 120, 55);
        Due.is("a fee of 9, theirs are 4, 2 and 3", x.offer(same), CoinNode.CHEAP);
        Steps.poolIs("before", x, t, apart, child, grandchild);
        int forChild = Steps.spend(x, 3 * t + 1, 24);
        Due.is("a fee of 6, theirs are 2 and 3", x.offer(forChild), 3);
        Steps.poolIs("the child is replaced", x, t, apart, forChild);
        int more = Steps.spend(x, 120, 53);
        Due.is("a fee of 11, theirs are 4 and 6", x.offer(more), 2);
        Steps.poolIs("all are replaced", x, apart, more);
        Due.is("fee of the first", x.fee(0), 4);
        Due.is("fee of the second", x.fee(1), 11);
    }

    private static void lateByAnOutputOfARival() {
        CoinNode x = Steps.nodeOfHeight(2);
        int t = Steps.spend(x, 120, 30, 30);
        int child = Steps.spend(x, 3 * t, 10);
        x.offer(t);
        x.offer(child);
        x.input(120, 1, 1);
        x.input(3 * t + 1, 1, 1);
        x.output(1, 0);
        Due.is("an output of a rival", x.offer(x.make()), CoinNode.LATE);
        x.input(120, 1, 1);
        x.input(3 * child, 1, 1);
        x.output(1, 0);
        Due.is("an output of one that follows a rival", x.offer(x.make()), CoinNode.LATE);
        x.input(120, 1, 1);
        x.input(3 * child, 1, 1);
        x.output(74, 0);
        Due.is("LATE before CHEAP", x.offer(x.make()), CoinNode.LATE);
        x.input(3 * t, 1, 1);
        x.input(3 * t + 1, 1, 1);
        x.output(1, 0);
        int both = x.make();
        Due.is("an output of one that is no rival", x.offer(both), 2);
        Steps.poolIs("the child is replaced", x, t, both);
    }

    private static void severalRivals() {
        CoinNode x = Steps.nodeOfHeight(3);
        int t = Steps.spend(x, 120, 60);
        int u = Steps.spend(x, 121, 59);
        int v = Steps.spend(x, 122, 58);
        x.offer(t);
        x.offer(u);
        x.offer(v);
        x.input(120, 1, 1);
        x.input(122, 1, 1);
        x.output(118, 0);
        int same = x.make();
        Due.is("a fee of 10, theirs are 4 and 6", x.offer(same), CoinNode.CHEAP);
        x.input(122, 1, 1);
        x.input(120, 1, 1);
        x.output(117, 0);
        int more = x.make();
        Due.is("a fee of 11", x.offer(more), 2);
        Steps.poolIs("two are replaced", x, u, more);
        Due.is("one rival of two coins", x.offer(t), CoinNode.CHEAP);
        int best = Steps.spend(x, 120, 52);
        Due.is("a fee of 12", x.offer(best), 2);
        Due.is("the coin of 122 is free again", x.offer(v), 3);
        Steps.poolIs("one is replaced", x, u, best, v);
    }

    // Transactions 0 to 11 in the pool, each with one output, from outputs of earlier ones.
    private static CoinNode crowded() {
        CoinNode x = Steps.nodeOfHeight(2);
        x.offer(Steps.spend(x, 120, 63));
        for (int t = 1; t < 12; t++) x.offer(Steps.spend(x, 3 * (t - 1), 63 - t));
        return x;
    }

    private static void full() {
        CoinNode x = crowded();
        Due.is("12 are in", x.pool(11), 11);
        int more = Steps.spend(x, 121, 1);
        Due.is("another", x.offer(more), CoinNode.FULL);
        Due.is("REFUSED before FULL", x.offer(3), CoinNode.REFUSED);
        int late = Steps.spend(x, 122, 1);
        Due.is("LATE before FULL", x.offer(late), CoinNode.LATE);
        int rival = Steps.spend(x, 30, 52);
        Due.is("CHEAP before FULL", x.offer(rival), CoinNode.CHEAP);
        int better = Steps.spend(x, 30, 51);
        Due.is("one that takes the place of its rival", x.offer(better), 12);
        Due.is("stands last", x.pool(11), better);
        Due.is("still another", x.offer(more), CoinNode.FULL);
        int half = Steps.spend(x, 15, 1);
        Due.is("one that takes the place of six", x.offer(half), 7);
        Due.is("another now", x.offer(more), 8);
        Steps.poolIs("at last", x, 0, 1, 2, 3, 4, 5, half, more);
    }

    private static void outside() {
        CoinNode x = Steps.nodeOfHeight(2);
        int t = Steps.spend(x, 120, 60);
        x.offer(t);
        for (int k : new int[] {LEAST, -1, 1, 11, 12, MOST}) {
            Due.is("pool(" + k + ")", x.pool(k), -1);
            Due.is("fee(" + k + ")", x.fee(k), 0);
        }
        Due.is("pool(0)", x.pool(0), t);
        Due.is("fee(0)", x.fee(0), 4);
    }

    private static void returnsFromTheLowestBlockOn() {
        CoinNode x = Steps.nodeOfHeight(4);
        int t = Steps.spend(x, 120, 60);
        int u = Steps.spend(x, 121, 50);
        int v = Steps.spend(x, 122, 40);
        int child = Steps.spend(x, 3 * t, 55);
        int poolOne = Steps.spend(x, 3 * v, 35);
        int poolTwo = Steps.spend(x, 3 * child, 54);
        int a = Steps.mined(x, 4, 1, v, t);
        Steps.mined(x, a, 1, u, child);
        x.offer(poolOne);
        x.offer(poolTwo);
        Steps.poolIs("before", x, poolOne, poolTwo);
        Steps.mined(x, 4, 9);
        Steps.poolIs("after", x, v, t, u, child, poolOne, poolTwo);
        int[] fees = {24, 4, 14, 5, 5, 1};
        for (int k = 0; k < 6; k++) Due.is("fee(" + k + ")", x.fee(k), fees[k]);
        Due.is("it is not ACTIVE", x.at(t), -1);
    }

    private static void newBlockTakesFromThePool() {
        CoinNode x = Steps.nodeOfHeight(3);
        int t = Steps.spend(x, 120, 60);
        int u = Steps.spend(x, 121, 50);
        int child = Steps.spend(x, 3 * t, 55);
        int rival = Steps.spend(x, 121, 60);
        x.offer(u);
        x.offer(t);
        x.offer(child);
        Steps.mined(x, 3, 1, t);
        Steps.poolIs("t is ACTIVE", x, u, child);
        Steps.mined(x, 4, 1, rival);
        Steps.poolIs("u is late", x, child);
        Due.is("offered again", x.offer(u), CoinNode.LATE);
    }

    private static void rewardGoesWithItsBlock() {
        CoinNode x = Steps.nodeOfHeight(3);
        int t = Steps.spend(x, 122, 60);
        int child = Steps.spend(x, 3 * t, 50);
        int apart = Steps.spend(x, 120, 50);
        x.offer(t);
        x.offer(child);
        x.offer(apart);
        Steps.mined(x, 1, 9);
        Steps.poolIs("the reward is not ACTIVE", x, apart);
        CoinNode y = Steps.nodeOfHeight(3);
        int u = Steps.spend(y, 121, 60);
        y.offer(u);
        int low = Steps.mined(y, 0, 9);
        Steps.poolIs("nor is one of block 1", y);
        Steps.mined(y, 3, 9);
        Due.is("back", y.block(low, 0), 3);
        Steps.poolIs("those that are gone stay gone", y);
        Due.is("offered again", y.offer(u), 1);
    }

    private static void anewAndFull() {
        CoinNode x = Steps.nodeOfHeight(4);
        int t = Steps.spend(x, 122, 60);
        int u = Steps.spend(x, 121, 60);
        int a = Steps.mined(x, 4, 1, t);
        Steps.mined(x, a, 1, u);
        x.offer(Steps.spend(x, 120, 63));
        int first = x.pool(0);
        for (int i = 1; i < 12; i++) x.offer(Steps.spend(x, 3 * (first + i - 1), 63 - i));
        Due.is("12 are in", x.pool(11), first + 11);
        Steps.mined(x, 4, 9);
        int[] due = new int[12];
        due[0] = t;
        due[1] = u;
        for (int k = 2; k < 12; k++) due[k] = first + k - 2;
        Steps.poolIs("those that come back stand first", x, due);
    }

    // Blocks arrive one at a time: the first of two makes the pool anew although the second follows at once.
    private static void anewAtEachTip() {
        CoinNode x = new CoinNode();
        x.token(1, 10, 1);
        for (int h = 0; h < 3; h++) Steps.grow(x, h);
        x.input(120, 1, 1);
        x.output(60, 1);
        int t = x.make();
        int child = Steps.spend(x, 3 * t, 50);
        Steps.mined(x, 3, 1, t);
        Due.is("its coin is one block old", x.offer(child), 1);
        x.mine(3, 2, 0);
        x.put(t);
        x.mine(5, 1, 0);
        x.deliver(6);
        Due.is("both arrive", x.deliver(5), 2);
        Due.is("t is ACTIVE", x.at(t), 5);
        Steps.poolIs("the child was late in between", x);
        Due.is("and may come again", x.offer(child), 1);
    }

    private static void anewByHeight() {
        CoinNode x = new CoinNode();
        x.token(1, 11, 0);
        x.token(1, 0, 5);
        x.token(1, 7, 0);
        x.deliver(x.mine(0, 1, 1));
        for (int h = 1; h < 3; h++) Steps.grow(x, h);
        int t = Steps.spend(x, 121, 60);
        Due.is("below height 5", x.offer(t), 1);
        Steps.grow(x, 3);
        Steps.poolIs("no more", x);
        Due.is("offered again", x.offer(t), CoinNode.LATE);
    }

    private static void staysWithoutANewTip() {
        CoinNode x = Steps.nodeOfHeight(3);
        int t = Steps.spend(x, 120, 60);
        int bad = Steps.spend(x, 123, 60);
        x.offer(t);
        Steps.mined(x, 2, 1, t);
        Steps.poolIs("a block aside has it", x, t);
        Steps.mined(x, 3, 9, t, bad);
        Steps.poolIs("a block that is not valid has it", x, t);
        Due.is("it is not ACTIVE", x.at(t), -1);
        Due.is("its coin is not spent", x.coin(120), 2);
        Due.is("once more", x.offer(t), CoinNode.REFUSED);
    }
}
