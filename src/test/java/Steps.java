// Ways to a state that several tests begin with.
final class Steps {
    private Steps() {
    }

    // A node whose tip is of this height: blocks 1, 2, .. of work 1, with their rewards under script 0.
    static CoinNode nodeOfHeight(int height) {
        CoinNode node = new CoinNode();
        for (int h = 0; h < height; h++) grow(node, h);
        return node;
    }

    // An empty block of work 1 on the parent, delivered.
    static int grow(CoinNode node, int parent) {
        int b = node.mine(parent, 1, 0);
        node.deliver(b);
        return b;
    }

    // A transaction of one input, with ints 1 and 1, and outputs of these amounts under script 0.
    static int spend(CoinNode node, int coin, int... amounts) {
        node.input(coin, 1, 1);
        for (int amount : amounts) node.output(amount, 0);
        return node.make();
    }

    // A transaction of these inputs, with ints 1 and 1, and outputs of these amounts under script 0.
    static int join(CoinNode node, int[] coins, int... amounts) {
        for (int coin : coins) node.input(coin, 1, 1);
        for (int amount : amounts) node.output(amount, 0);
        return node.make();
    }

    // A block of these transactions on the parent, delivered.
    static int mined(CoinNode node, int parent, int work, int... transactions) {
        for (int t : transactions) node.put(t);
        int b = node.mine(parent, work, 0);
        node.deliver(b);
        return b;
    }

    static void poolIs(String when, CoinNode node, int... transactions) {
        for (int k = 0; k < transactions.length; k++) Due.is(when + ": pool(" + k + ")", node.pool(k), transactions[k]);
        for (int k = transactions.length; k < 13; k++) {
            Due.is(when + ": pool(" + k + ")", node.pool(k), -1);
            Due.is(when + ": fee(" + k + ")", node.fee(k), 0);
        }
    }
}
