// What the tests of scripts share: the ops, and one way to see whether a script fits.
abstract class ScriptRuns {
    static final int PUSH = 0, DUP = 1, DROP = 2, SWAP = 3, ADD = 4, MULTIPLY = 5, EQUAL = 6;
    static final int LESS = 7, VERIFY = 8, HASH = 9, AGE = 10, HEIGHT = 11, SKIP = 12;
    static final int LEAST = Integer.MIN_VALUE, MOST = Integer.MAX_VALUE;
    static final boolean YES = true, NO = false;

    // A coin of height 1 under script 1 is spent in a block of height 4, by way of the pool and of a block.
    static void fits(boolean due, int a, int b, int... tokens) {
        CoinNode x = new CoinNode();
        StringBuilder name = new StringBuilder(a + " " + b + ":");
        for (int i = 0; i < tokens.length; i += 2) {
            Due.is("a token", x.token(1, tokens[i], tokens[i + 1]), i / 2 + 1);
            name.append(" (").append(tokens[i]).append(", ").append(tokens[i + 1]).append(")");
        }
        x.deliver(x.mine(0, 1, 1));
        Steps.grow(x, 1);
        Steps.grow(x, 2);
        x.input(121, a, b);
        x.output(64, 0);
        x.make();
        Due.is(name + " in the pool", x.offer(0), due ? 1 : CoinNode.LATE);
        int block = Steps.mined(x, 3, 1, 0);
        Due.is(name + " in a block", x.block(block, 0), due ? 4 : 2);
    }
}
