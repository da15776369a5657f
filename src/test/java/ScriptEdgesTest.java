import java.util.Arrays;

// The edges of the Terms' SCRIPTS, each on both sides.
public final class ScriptEdgesTest extends ScriptRuns {
    public static void main(String[] args) {
        tooFewAndTooMany();
        fullStackStaysFull();
        wrapsOnBothSides();
        hashOnBothSides();
        equalAndLessOnBothSides();
        topAtLast();
        ageOnBothSides();
        ageOfAnOldCoin();
        heightOnBothSides();
        skipsAsManyAsItSays();
        skipsUpToTheEnd();
        eachScriptHasItsOwnTokens();
        Due.end();
    }

    // Brings the stack to a size, each int being 1, and does one token there.
    private static int[] tokensAt(int size, int op) {
        int before = size < 2 ? 2 - size : size - 2;
        int[] tokens = new int[2 * (before + 1)];
        for (int i = 0; i < before; i++) {
            tokens[2 * i] = size < 2 ? DROP : PUSH;
            tokens[2 * i + 1] = 1;
        }
        tokens[2 * before] = op;
        return tokens;
    }

    private static int[] withPushOfOne(int[] tokens) {
        int[] more = Arrays.copyOf(tokens, tokens.length + 2);
        more[tokens.length] = PUSH;
        more[tokens.length + 1] = 1;
        return more;
    }

    private static void tooFewAndTooMany() {
        int[] least = {0, 1, 1, 2, 2, 2, 2, 2, 1, 1, 0, 0, 1};
        int[] most = {5, 5, 6, 6, 6, 6, 6, 6, 6, 6, 6, 5, 6};
        int[] change = {1, 1, -1, 0, -1, -1, -1, -1, -1, 0, 0, 1, -1};
        for (int op = PUSH; op <= SKIP; op++) {
            for (int size = 0; size <= 6; size++) {
                boolean due = size >= least[op] && size <= most[op];
                int[] tokens = tokensAt(size, op);
                if (op == PUSH) tokens[tokens.length - 1] = 1;
                boolean room = size + change[op] < 6;
                fits(due, 1, 1, room ? withPushOfOne(tokens) : tokens);
            }
        }
    }

    // A token that leaves six ints leaves no room for a seventh.
    private static void fullStackStaysFull() {
        for (int op : new int[] {SWAP, HASH, AGE}) fits(NO, 1, 1, withPushOfOne(tokensAt(6, op)));
        for (int op : new int[] {DUP, HEIGHT}) fits(NO, 1, 1, withPushOfOne(tokensAt(5, op)));
        for (int op : new int[] {DROP, ADD, VERIFY, SKIP}) fits(YES, 1, 1, withPushOfOne(tokensAt(6, op)));
    }

    private static void joined(int op, int a, int b, int due) {
        fits(YES, a, b, op, 0, PUSH, due, EQUAL, 0);
        fits(due != 0, a, b, op, 0);
    }

    private static void wrapsOnBothSides() {
        joined(ADD, MOST, 0, MOST);
        joined(ADD, MOST, 1, LEAST);
        joined(ADD, MOST, MOST, -2);
        joined(ADD, LEAST, 0, LEAST);
        joined(ADD, LEAST, -1, MOST);
        joined(ADD, -1, LEAST, MOST);
        joined(ADD, LEAST, LEAST, 0);
        joined(ADD, LEAST, MOST, -1);
        joined(MULTIPLY, 46341, 46340, 2147441940);
        joined(MULTIPLY, 46341, 46341, -2147479015);
        joined(MULTIPLY, MOST, 2, -2);
        joined(MULTIPLY, LEAST, 1, LEAST);
        joined(MULTIPLY, LEAST, -1, LEAST);
        joined(MULTIPLY, LEAST, 2, 0);
        joined(MULTIPLY, 65536, 32767, 2147418112);
        joined(MULTIPLY, 65536, 65536, 0);
        joined(MULTIPLY, MOST, MOST, 1);
        joined(MULTIPLY, 0, MOST, 0);
    }

    // 31 x + 7 leaves the ints between 69273666 and 69273667, and between -69273666 and -69273667.
    private static void hashOnBothSides() {
        hashed(0, 7);
        hashed(32, 999);
        hashed(33, 21);
        hashed(-1, 985);
        for (int x : new int[] {69273666, 69273667, -69273666, -69273667, LEAST, LEAST + 1, MOST - 1, MOST}) {
            long rest = (31L * x + 7) % 1009;
            hashed(x, (int) (rest < 0 ? rest + 1009 : rest));
        }
        for (int rest : new int[] {0, 1, 1007, 1008}) {
            int x = 0;
            while ((31 * x + 7) % 1009 != rest) x++;
            hashed(x, rest);
            hashed(x - 1009, rest);
            hashed(x - 2018, rest);
            hashed(x + 1009 * 1000000, rest);
            hashed(x - 1009 * 1000000, rest);
        }
    }

    private static void hashed(int x, int due) {
        fits(YES, 5, x, HASH, 0, PUSH, due, EQUAL, 0, VERIFY, 0, PUSH, 5, EQUAL, 0);
        fits(due != 0, 1, x, HASH, 0);
    }

    private static void equalAndLessOnBothSides() {
        for (int x : new int[] {LEAST + 1, -1, 0, 1, 1000, MOST - 1}) {
            joined(EQUAL, x, x - 1, 0);
            joined(EQUAL, x, x, 1);
            joined(EQUAL, x, x + 1, 0);
            joined(LESS, x, x - 1, 0);
            joined(LESS, x, x, 0);
            joined(LESS, x, x + 1, 1);
        }
        joined(EQUAL, LEAST, MOST, 0);
        joined(EQUAL, 1, 65537, 0);
        joined(LESS, LEAST, MOST, 1);
        joined(LESS, MOST, LEAST, 0);
        joined(LESS, LEAST, 1, 1);
        joined(LESS, 1, LEAST, 0);
    }

    private static void topAtLast() {
        for (int top : new int[] {LEAST, -1, 0, 1, 256, 65536, MOST}) {
            boolean other = top != 0;
            fits(other, 0, top);
            fits(other, 1, 1, PUSH, top);
            fits(other, 1, top, VERIFY, 0);
            fits(!other, 1, top, SKIP, 1, PUSH, 0);
        }
        fits(YES, 1, 0, DROP, 0);
        fits(NO, 1, 1, DROP, 0, DROP, 0);
    }

    // An output under AGE v, spent some blocks behind the one it is in; 0 blocks behind is the same block.
    private static void spentBehind(int blocks, int v) {
        CoinNode x = new CoinNode();
        x.token(1, AGE, v);
        for (int h = 0; h < 2; h++) Steps.grow(x, h);
        x.input(120, 1, 1);
        x.output(10, 1);
        int t = x.make();
        int u = Steps.spend(x, 3 * t, 5);
        boolean due = blocks >= v;
        String name = "AGE " + v + " of a coin " + blocks + " blocks old";
        if (blocks == 0) {
            x.offer(t);
            Due.is(name + ", in the pool", x.offer(u), due ? 2 : CoinNode.LATE);
            Due.is(name + ", in a block", x.block(Steps.mined(x, 2, 1, t, u), 0), due ? 4 : 2);
            return;
        }
        Steps.mined(x, 2, 1, t);
        for (int h = 3; h < 2 + blocks; h++) Steps.grow(x, h);
        Due.is(name + ", in the pool", x.offer(u), due ? 1 : CoinNode.LATE);
        Due.is(name + ", in a block", x.block(Steps.mined(x, 2 + blocks, 1, u), 0), due ? 4 : 2);
    }

    private static void ageOnBothSides() {
        for (int blocks = 0; blocks <= 4; blocks++) {
            for (int v = blocks - 1; v <= blocks + 1; v++) spentBehind(blocks, v);
            spentBehind(blocks, LEAST);
            spentBehind(blocks, MOST);
        }
    }

    // The reward of block 1 can be 30 blocks old at most.
    private static void ageOfAnOldCoin() {
        for (int v = 29; v <= 31; v++) {
            CoinNode x = new CoinNode();
            x.token(1, AGE, v);
            x.deliver(x.mine(0, 1, 1));
            for (int h = 1; h < 30; h++) Steps.grow(x, h);
            int t = Steps.spend(x, 121, 60);
            Due.is("AGE " + v + " behind a tip of height 30", x.offer(t), v <= 30 ? 1 : CoinNode.LATE);
            Due.is("AGE " + v + " in block 31", x.block(Steps.mined(x, 30, 1, t), 0), v <= 30 ? 4 : 2);
        }
    }

    // Fits in the block of height 5 alone.
    private static void heightOnBothSides() {
        CoinNode x = new CoinNode();
        x.token(1, HEIGHT, 0);
        x.token(1, PUSH, 5);
        x.token(1, EQUAL, 0);
        x.deliver(x.mine(0, 1, 1));
        Steps.grow(x, 1);
        int t = Steps.spend(x, 121, 60);
        for (int tip = 2; tip <= 6; tip++) {
            Due.is("behind a tip of height " + tip, x.offer(t), tip == 4 ? 1 : CoinNode.LATE);
            x.put(t);
            int b = x.mine(x.active(tip), 1, 0);
            int empty = x.mine(x.active(tip), 2, 0);
            x.deliver(b);
            Due.is("in the block of height " + (tip + 1), x.block(b, 0), tip == 4 ? 4 : 2);
            x.deliver(empty);
            Due.is("an empty one of more work", x.active(tip + 1), empty);
        }
    }

    // Of the DROPs behind it none may be done, and of what follows them all must be.
    private static void skipsAsManyAsItSays() {
        for (int v = 0; v <= 5; v++) {
            int[] tokens = new int[2 * (v + 3)];
            tokens[0] = SKIP;
            tokens[1] = v;
            for (int i = 1; i <= v; i++) tokens[2 * i] = DROP;
            tokens[2 * v + 2] = PUSH;
            tokens[2 * v + 3] = 5;
            tokens[2 * v + 4] = EQUAL;
            fits(YES, 5, 0, tokens);
            fits(v == 0, 5, 1, tokens);
            fits(v == 0, 5, LEAST, tokens);
        }
    }

    private static void skipsUpToTheEnd() {
        for (int behind = 0; behind <= 7; behind++) {
            for (int v = 0; v <= 8; v++) {
                int[] tokens = new int[2 * (behind + 1)];
                tokens[0] = SKIP;
                tokens[1] = v;
                for (int i = 1; i <= behind; i++) tokens[2 * i] = PUSH;
                fits(v >= behind, 9, 0, tokens);
                fits(behind == 0, 9, 1, tokens);
            }
        }
    }

    private static void eachScriptHasItsOwnTokens() {
        CoinNode x = new CoinNode();
        for (int s = 1; s < 8; s++) {
            for (int i = 0; i < 6; i++) x.token(s, AGE, 0);
            x.token(s, PUSH, 10 * s);
            Due.is("eighth token of script " + s, x.token(s, EQUAL, 0), 8);
        }
        for (int s = 1; s < 8; s++) x.deliver(x.mine(s - 1, 1, s));
        Steps.grow(x, 7);
        for (int s = 1; s < 8; s++) {
            for (int b : new int[] {10 * s - 10, 10 * s + 10, 10 * s}) {
                x.input(120 + s, 1, b);
                x.output(1, 0);
                Due.is("script " + s + " with " + b, x.offer(x.make()), b == 10 * s ? s : CoinNode.LATE);
            }
        }
        x.input(120, 1, 70);
        x.output(1, 0);
        Due.is("script 0 has no tokens", x.offer(x.make()), 8);
    }
}
