// Promise 10: blocks forged from the pool.
public final class ForgeTest {
    private static final int LEAST = Integer.MIN_VALUE, MOST = Integer.MAX_VALUE;

    public static void main(String[] args) {
        outside();
        emptyPool();
        greatestFeesFirst();
        firstOfTheSameFee();
        childrenBehindTheirParents();
        childLeftBehind();
        childOfTwoParents();
        whatWasPutStays();
        onTheTip();
        Due.end();
    }

    private static void outside() {
        CoinNode x = Steps.nodeOfHeight(2);
        int t = Steps.spend(x, 120, 60);
        x.offer(t);
        for (int w : new int[] {LEAST, -1, 0, 10, MOST}) Due.is("forge of work " + w, x.forge(w, 0), CoinNode.BAD);
        for (int s : new int[] {LEAST, -1, 8, MOST}) Due.is("forge under " + s, x.forge(1, s), CoinNode.BAD);
        Due.is("nothing was made", x.block(3, 0), CoinNode.BAD);
        Steps.poolIs("and nothing taken", x, t);
        Due.is("work 9, script 7", x.forge(9, 7), 3);
        Due.is("its work", x.block(3, 2), 12);
        Due.is("its reward", x.balance(7), 68);
    }

    private static void emptyPool() {
        CoinNode x = new CoinNode();
        for (int b = 1; b < 32; b++) Due.is("forge " + b, x.forge(1, 1), b);
        Due.is("forge 32", x.forge(1, 1), CoinNode.FULL);
        for (int h = 0; h < 32; h++) Due.is("active(" + h + ")", x.active(h), h);
        Due.is("delivered at once", x.block(31, 0), 4);
        Due.is("and not again", x.deliver(31), CoinNode.BAD);
    }

    private static void greatestFeesFirst() {
        CoinNode x = Steps.nodeOfHeight(7);
        int[] amounts = {60, 50, 63, 40, 30, 29};
        int[] t = new int[6];
        for (int i = 0; i < 6; i++) {
            t[i] = Steps.spend(x, 120 + i, amounts[i]);
            Due.is("offer", x.offer(t[i]), i + 1);
        }
        int b = x.forge(1, 0);
        int[] due = {8, 8, -1, 8, -1, 8};
        for (int i = 0; i < 6; i++) Due.is("at " + i, x.at(t[i]), due[i]);
        Due.is("16 and the fees 24, 14, 4 and 3", x.block(b, 3), 61);
        Steps.poolIs("those left", x, t[2], t[4]);
        x.forge(1, 0);
        Steps.poolIs("none left", x);
        Due.is("at 2", x.at(t[2]), 9);
        Due.is("at 4", x.at(t[4]), 9);
    }

    private static void firstOfTheSameFee() {
        CoinNode x = Steps.nodeOfHeight(6);
        int[] t = new int[5];
        for (int i = 0; i < 5; i++) t[i] = Steps.spend(x, 120 + i, i == 4 ? 28 : 60);
        int[] order = {4, 2, 0, 3, 1};
        for (int i : order) x.offer(t[i]);
        x.forge(1, 0);
        Steps.poolIs("the last of the same fee", x, t[1]);
    }

    private static void childrenBehindTheirParents() {
        CoinNode x = Steps.nodeOfHeight(4);
        int parent = Steps.spend(x, 120, 30, 33);
        int child = Steps.spend(x, 3 * parent, 5);
        int grandchild = Steps.spend(x, 3 * child, 1);
        int two = Steps.spend(x, 121, 62);
        int three = Steps.spend(x, 122, 61);
        x.offer(parent);
        x.offer(child);
        x.offer(grandchild);
        x.offer(two);
        x.offer(three);
        int b = x.forge(1, 0);
        Due.is("valid", x.block(b, 0), 4);
        Due.is("32 and the fees 3, 2, 1 and 25", x.block(b, 3), 63);
        Due.is("three", x.at(three), 5);
        Due.is("two", x.at(two), 5);
        Due.is("the parent, with a fee of 1", x.at(parent), 5);
        Due.is("the child, with a fee of 25", x.at(child), 5);
        Steps.poolIs("the grandchild is left", x, grandchild);
    }

    private static void childLeftBehind() {
        CoinNode x = Steps.nodeOfHeight(5);
        int parent = Steps.spend(x, 120, 64);
        int child = Steps.spend(x, 3 * parent, 1);
        x.offer(parent);
        x.offer(child);
        for (int i = 1; i < 5; i++) x.offer(Steps.spend(x, 120 + i, i < 4 ? 63 : 31));
        int b = x.forge(1, 0);
        Due.is("32 and four fees of 1", x.block(b, 3), 36);
        Steps.poolIs("a parent of fee 0 and its child stay", x, parent, child);
        x.forge(1, 0);
        Due.is("the child", x.at(child), 7);
    }

    private static void childOfTwoParents() {
        CoinNode x = Steps.nodeOfHeight(5);
        int one = Steps.spend(x, 120, 60);
        int two = Steps.spend(x, 121, 63);
        x.input(3 * one, 1, 1);
        x.input(3 * two, 1, 1);
        x.output(1, 0);
        int child = x.make();
        int three = Steps.spend(x, 122, 62);
        int four = Steps.spend(x, 123, 61);
        for (int t : new int[] {one, two, child, three, four}) x.offer(t);
        int b = x.forge(1, 0);
        Due.is("valid", x.block(b, 0), 4);
        Due.is("32 and the fees 4, 3, 2 and 1", x.block(b, 3), 42);
        Steps.poolIs("the child waits for the second parent", x, child);
    }

    private static void whatWasPutStays() {
        CoinNode x = Steps.nodeOfHeight(3);
        int t = Steps.spend(x, 120, 60);
        int u = Steps.spend(x, 121, 60);
        x.put(t);
        x.offer(u);
        int b = x.forge(1, 0);
        Due.is("what was put is not in it", x.at(t), -1);
        Due.is("what was in the pool is", x.at(u), 4);
        Due.is("it is put still", x.put(t), CoinNode.BAD);
        int c = x.mine(b, 1, 0);
        x.deliver(c);
        Due.is("and in the next block", x.at(t), 5);
    }

    private static void onTheTip() {
        CoinNode x = Steps.nodeOfHeight(3);
        int high = Steps.mined(x, 1, 9);
        Steps.mined(x, 3, 1);
        x.mine(high, 9, 0);
        int b = x.forge(2, 0);
        Due.is("on the tip, not the last or highest", x.active(3), b);
        Due.is("its parent", x.active(2), high);
        Due.is("its height", x.block(b, 1), 3);
        Due.is("its work", x.block(b, 2), 13);
        Due.is("a block not delivered stays so", x.block(6, 0), 0);
    }
}
