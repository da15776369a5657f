// Promises 1 to 7 and 18: a new object, and how scripts, transactions and blocks are made.
public final class MakingTest {
    private static final int LEAST = Integer.MIN_VALUE, MOST = Integer.MAX_VALUE;

    public static void main(String[] args) {
        newObject();
        objectsAreApart();
        tokenCounts();
        tokenOutside();
        tokenOfScriptInUse();
        inputCounts();
        inputOutside();
        outputCounts();
        makeNeedsBoth();
        makeFull();
        putCounts();
        mineOutside();
        mineFull();
        Due.end();
    }

    private static void newObject() {
        CoinNode x = new CoinNode();
        Due.is("new: at", x.at(0), -1);
        Due.is("new: put", x.put(0), CoinNode.BAD);
        Due.is("new: offer", x.offer(0), CoinNode.REFUSED);
        Due.is("new: input of no transaction", x.input(0, 1, 1), CoinNode.BAD);
        Due.is("new: make", x.make(), CoinNode.BAD);
        int[] zero = {4, 0, 1, 64};
        for (int what = 0; what < 4; what++) Due.is("new: block(0, " + what + ")", x.block(0, what), zero[what]);
        Due.is("new: block 1", x.block(1, 0), CoinNode.BAD);
        Due.is("new: active(0)", x.active(0), 0);
        Due.is("new: active(1)", x.active(1), -1);
        for (int c = 0; c < 152; c++) Due.is("new: coin(" + c + ")", x.coin(c), c == 120 ? 2 : 0);
        for (int s = 0; s < 8; s++) Due.is("new: balance(" + s + ")", x.balance(s), s == 0 ? 64 : 0);
        Steps.poolIs("new", x);
        Due.is("new: token(0)", x.token(0, 0, 1), CoinNode.BAD);
        for (int s = 1; s < 8; s++) Due.is("new: first token of " + s, x.token(s, 0, 1), 1);
        Due.is("new: first block", x.mine(0, 1, 0), 1);
        x.input(120, 1, 1);
        x.output(1, 0);
        Due.is("new: first transaction", x.make(), 0);
    }

    private static void objectsAreApart() {
        CoinNode x = new CoinNode();
        CoinNode y = new CoinNode();
        x.token(1, 0, 1);
        Steps.grow(x, 0);
        Due.is("apart: token", y.token(1, 0, 1), 1);
        Due.is("apart: block", y.block(1, 0), CoinNode.BAD);
    }

    private static void tokenCounts() {
        CoinNode x = new CoinNode();
        for (int i = 1; i <= 8; i++) Due.is("token " + i, x.token(7, i, 0), i);
        Due.is("token 9", x.token(7, 0, 0), CoinNode.FULL);
        Due.is("of another script", x.token(6, 0, 0), 1);
        Due.is("BAD op before FULL", x.token(7, 13, 0), CoinNode.BAD);
        Due.is("BAD v before FULL", x.token(7, 12, 9), CoinNode.BAD);
        x.mine(0, 1, 7);
        Due.is("BAD as in use before FULL", x.token(7, 0, 0), CoinNode.BAD);
    }

    private static void tokenOutside() {
        CoinNode x = new CoinNode();
        for (int s : new int[] {LEAST, -1, 8, MOST}) Due.is("token of script " + s, x.token(s, 0, 0), CoinNode.BAD);
        for (int op : new int[] {LEAST, -1, 13, MOST}) Due.is("token of op " + op, x.token(1, op, 0), CoinNode.BAD);
        for (int v : new int[] {LEAST, -1, 9, MOST}) Due.is("SKIP " + v, x.token(1, 12, v), CoinNode.BAD);
        Due.is("SKIP 0", x.token(1, 12, 0), 1);
        Due.is("SKIP 8", x.token(1, 12, 8), 2);
        int count = 2;
        for (int v : new int[] {LEAST, MOST}) {
            for (int op : new int[] {0, 8, 10}) Due.is("op " + op + " with " + v, x.token(1, op, v), ++count);
        }
    }

    private static void tokenOfScriptInUse() {
        CoinNode x = new CoinNode();
        Due.is("script of block 0", x.token(0, 0, 1), CoinNode.BAD);
        x.mine(0, 0, 1);
        Due.is("script of no block", x.token(1, 0, 1), 1);
        x.mine(0, 1, 1);
        Due.is("script of a block that is not delivered", x.token(1, 0, 1), CoinNode.BAD);
        x.forge(1, 2);
        Due.is("script of a forged block", x.token(2, 0, 1), CoinNode.BAD);
        x.input(120, 1, 1);
        x.output(1, 3);
        x.output(1, 3);
        x.output(1, 4);
        Due.is("script of the draft, which is no transaction", x.token(3, 0, 1), 1);
        x.make();
        Due.is("script of output 0", x.token(3, 0, 1), CoinNode.BAD);
        Due.is("script of output 2", x.token(4, 0, 1), CoinNode.BAD);
        Due.is("script of none", x.token(5, 0, 1), 1);
    }

    private static void inputCounts() {
        CoinNode x = new CoinNode();
        for (int b = 0; b < 4; b++) x.mine(b, 1, 0);
        Due.is("reward of block 0", x.input(120, 0, 0), 1);
        Due.is("once more", x.input(120, 1, 1), CoinNode.BAD);
        Due.is("reward of a block not delivered", x.input(124, LEAST, MOST), 2);
        Due.is("input 3", x.input(121, 0, 0), 3);
        Due.is("input 4", x.input(122, 0, 0), CoinNode.FULL);
        Due.is("BAD as in the draft before FULL", x.input(121, 0, 0), CoinNode.BAD);
        Due.is("BAD as not there before FULL", x.input(125, 0, 0), CoinNode.BAD);
        x.output(1, 0);
        x.make();
        Due.is("after make the draft is empty", x.input(121, 0, 0), 1);
    }

    private static void inputOutside() {
        CoinNode x = new CoinNode();
        for (int c : new int[] {LEAST, -1, 0, 119, 121, 151, 152, MOST}) {
            Due.is("input of coin " + c, x.input(c, 1, 1), CoinNode.BAD);
        }
        Steps.spend(x, 120, 1, 1);
        Due.is("output 2 of two", x.input(2, 1, 1), CoinNode.BAD);
        Due.is("output of the draft", x.input(3, 1, 1), CoinNode.BAD);
        Due.is("output 1 of two", x.input(1, 1, 1), 1);
        Due.is("output 0 of two", x.input(0, 1, 1), 2);
        x.output(1, 0);
        Due.is("output of the draft, which has one", x.input(3, 1, 1), CoinNode.BAD);
    }

    private static void outputCounts() {
        CoinNode x = new CoinNode();
        for (int a : new int[] {LEAST, -1, 0, 1001, MOST}) Due.is("output of " + a, x.output(a, 0), CoinNode.BAD);
        for (int s : new int[] {LEAST, -1, 8, MOST}) Due.is("output under " + s, x.output(1, s), CoinNode.BAD);
        Due.is("output 1", x.output(1, 7), 1);
        Due.is("output 2", x.output(1000, 0), 2);
        Due.is("output 3", x.output(1, 7), 3);
        Due.is("output 4", x.output(1, 7), CoinNode.FULL);
        Due.is("BAD amount before FULL", x.output(0, 7), CoinNode.BAD);
        Due.is("BAD script before FULL", x.output(1, 8), CoinNode.BAD);
        x.input(120, 1, 1);
        x.make();
        Due.is("after make the draft is empty", x.output(1, 0), 1);
    }

    private static void makeNeedsBoth() {
        CoinNode x = new CoinNode();
        x.output(1, 0);
        Due.is("make without input", x.make(), CoinNode.BAD);
        Due.is("its output stays", x.output(2, 0), 2);
        Due.is("and it takes an input", x.input(120, 1, 1), 1);
        Due.is("make", x.make(), 0);
        Due.is("make of an empty draft", x.make(), CoinNode.BAD);
        x.input(120, 1, 1);
        Due.is("make without output", x.make(), CoinNode.BAD);
        Due.is("its input stays", x.input(120, 1, 1), CoinNode.BAD);
        x.output(1, 0);
        Due.is("make", x.make(), 1);
    }

    private static void makeFull() {
        CoinNode x = new CoinNode();
        for (int t = 0; t < 40; t++) Due.is("transaction " + t, Steps.spend(x, 120, 1, 1, 1), t);
        Due.is("BAD before FULL", x.make(), CoinNode.BAD);
        Due.is("output 2 of transaction 39", x.input(119, 1, 1), 1);
        x.output(1, 5);
        Due.is("transaction 40", x.make(), CoinNode.FULL);
        Due.is("its script is not in use", x.token(5, 0, 1), 1);
        Due.is("its input stays", x.input(119, 1, 1), CoinNode.BAD);
        Due.is("its output stays", x.output(1, 0), 2);
        Due.is("more inputs", x.input(0, 1, 1), 2);
        Due.is("more inputs", x.input(120, 1, 1), 3);
        Due.is("still FULL", x.make(), CoinNode.FULL);
        Due.is("reward of block 0 is as before", x.block(0, 3), 64);
        Due.is("and its coin", x.balance(0), 64);
    }

    private static void putCounts() {
        CoinNode x = new CoinNode();
        for (int t = 0; t < 5; t++) Steps.spend(x, 120, 1);
        for (int t : new int[] {LEAST, -1, 5, 40, MOST}) Due.is("put " + t, x.put(t), CoinNode.BAD);
        Due.is("first", x.put(4), 1);
        Due.is("once more", x.put(4), CoinNode.BAD);
        for (int t = 0; t < 3; t++) Due.is("put " + t, x.put(t), t + 2);
        Due.is("fifth", x.put(3), CoinNode.FULL);
        Due.is("BAD as put already before FULL", x.put(2), CoinNode.BAD);
        Due.is("BAD as not there before FULL", x.put(5), CoinNode.BAD);
        x.mine(0, 1, 0);
        Due.is("none are put after mine", x.put(4), 1);
    }

    private static void mineOutside() {
        CoinNode x = new CoinNode();
        Steps.spend(x, 120, 1);
        Steps.spend(x, 120, 2);
        x.put(0);
        for (int p : new int[] {LEAST, -1, 1, 32, MOST}) Due.is("mine on " + p, x.mine(p, 1, 0), CoinNode.BAD);
        for (int w : new int[] {LEAST, -1, 0, 10, MOST}) Due.is("mine of work " + w, x.mine(0, w, 0), CoinNode.BAD);
        for (int s : new int[] {LEAST, -1, 8, MOST}) Due.is("mine under " + s, x.mine(0, 1, s), CoinNode.BAD);
        Due.is("those put stay", x.put(0), CoinNode.BAD);
        Due.is("those put stay", x.put(1), 2);
        Due.is("work 9, script 7", x.mine(0, 9, 7), 1);
        Due.is("work 1 on a block not delivered", x.mine(1, 1, 0), 2);
        int[] one = {0, 1, 10, 0};
        int[] two = {0, 2, 11, 0};
        for (int what = 0; what < 4; what++) {
            Due.is("block(1, " + what + ")", x.block(1, what), one[what]);
            Due.is("block(2, " + what + ")", x.block(2, what), two[what]);
        }
        Due.is("no block is ACTIVE by mine", x.active(1), -1);
    }

    private static void mineFull() {
        CoinNode x = new CoinNode();
        for (int b = 1; b < 32; b++) Due.is("block " + b, x.mine(b - 1, 9, 0), b);
        Steps.spend(x, 151, 1);
        Steps.spend(x, 151, 1);
        x.put(0);
        Due.is("block 32", x.mine(31, 1, 1), CoinNode.FULL);
        Due.is("forge of block 32", x.forge(1, 1), CoinNode.FULL);
        Due.is("its script is not in use", x.token(1, 0, 1), 1);
        Due.is("those put stay", x.put(1), 2);
        Due.is("BAD parent before FULL", x.mine(32, 1, 0), CoinNode.BAD);
        Due.is("BAD work before FULL", x.mine(0, 10, 0), CoinNode.BAD);
        Due.is("BAD script before FULL", x.mine(0, 1, 8), CoinNode.BAD);
        Due.is("forge: BAD work before FULL", x.forge(10, 0), CoinNode.BAD);
        Due.is("forge: BAD script before FULL", x.forge(1, -1), CoinNode.BAD);
        Due.is("block 31", x.block(31, 2), 280);
        Due.is("there is no block 32", x.block(32, 0), CoinNode.BAD);
    }
}
