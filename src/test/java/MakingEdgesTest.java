// The edges of promises 2 to 7 and 18: the numbers that the Terms give, and that a refused call changes nothing.
public final class MakingEdgesTest {
    private static final int LEAST = Integer.MIN_VALUE, MOST = Integer.MAX_VALUE;

    public static void main(String[] args) {
        eightTokensPerScript();
        ninthTokenIsNotThere();
        refusedTokenIsNotThere();
        opsAndTheirValues();
        scriptOfEachOutput();
        scriptOfEachBlock();
        scriptOfWhatWasRefused();
        coinsOfTransactions();
        coinsOfAllTransactions();
        coinsOfBlocks();
        coinsBelowZero();
        coinOnceInTheDraft();
        fourthInputIsNotThere();
        amountsAndScripts();
        fourthOutputIsNotThere();
        leastAndGreatestTransaction();
        draftStays();
        fortyTransactions();
        fifthPutIsNotThere();
        putAgain();
        parentWorkAndScript();
        refusedMineChangesNothing();
        thirtyTwoBlocks();
        badBeforeFull();
        Due.end();
    }

    private static void eightTokensPerScript() {
        CoinNode x = new CoinNode();
        for (int i = 1; i <= 8; i++) {
            for (int s = 1; s < 8; s++) Due.is("token " + i + " of script " + s, x.token(s, 0, 1), i);
        }
        for (int s = 1; s < 8; s++) Due.is("token 9 of script " + s, x.token(s, 0, 1), CoinNode.FULL);
        for (int s : new int[] {LEAST, -1, 0, 8, MOST}) Due.is("token of script " + s, x.token(s, 0, 1), CoinNode.BAD);
    }

    // A coin of block 1 under script 1 is spent with ints 0 and 1 in the block of height 3.
    private static int offerOfScriptOne(CoinNode x) {
        x.deliver(x.mine(0, 1, 1));
        Steps.grow(x, 1);
        x.input(121, 0, 1);
        x.output(1, 0);
        return x.offer(x.make());
    }

    private static void ninthTokenIsNotThere() {
        CoinNode x = new CoinNode();
        for (int i = 1; i <= 7; i++) x.token(1, 10, 0);
        x.token(2, 0, 0);
        Due.is("eighth", x.token(1, 0, 5), 8);
        Due.is("ninth", x.token(1, 2, 0), CoinNode.FULL);
        Due.is("eight are done, with 5 on top at last", offerOfScriptOne(x), 1);
        CoinNode y = new CoinNode();
        for (int i = 1; i <= 7; i++) y.token(1, 10, 0);
        y.token(1, 0, 0);
        y.token(1, 0, 5);
        Due.is("eight are done, with 0 on top at last", offerOfScriptOne(y), CoinNode.LATE);
    }

    private static void refusedTokenIsNotThere() {
        CoinNode x = new CoinNode();
        Due.is("op 13", x.token(1, 13, 0), CoinNode.BAD);
        Due.is("SKIP 9", x.token(1, 12, 9), CoinNode.BAD);
        Due.is("op -1", x.token(1, -1, 0), CoinNode.BAD);
        Due.is("first token", x.token(1, 10, 0), 1);
        Due.is("SKIP -1", x.token(1, 12, -1), CoinNode.BAD);
        Due.is("the script fits", offerOfScriptOne(x), 1);
        Due.is("the script is in use", x.token(1, 0, 0), CoinNode.BAD);
        x.input(121, 1, 1);
        x.output(1, 0);
        Steps.mined(x, 2, 1, x.make());
        Due.is("the script fits still", x.block(3, 0), 4);
    }

    private static void opsAndTheirValues() {
        int[] values = {LEAST, -1, 0, 1, 7, 8, 9, MOST};
        for (int op = -1; op <= 13; op++) {
            CoinNode x = new CoinNode();
            int count = 0;
            for (int v : values) {
                boolean bad = op < 0 || op > 12 || op == 12 && (v < 0 || v > 8);
                Due.is("token(1, " + op + ", " + v + ")", x.token(1, op, v), bad ? CoinNode.BAD : ++count);
            }
        }
    }

    private static void scriptOfEachOutput() {
        CoinNode x = new CoinNode();
        x.input(120, 1, 1);
        for (int s = 2; s <= 4; s++) x.output(1, s);
        x.make();
        for (int s = 1; s <= 5; s++) {
            boolean had = s >= 2 && s <= 4;
            Due.is("token of script " + s, x.token(s, 0, 1), had ? CoinNode.BAD : 1);
        }
        x.input(120, 1, 1);
        x.output(1, 7);
        x.make();
        Due.is("script 7, of a second transaction", x.token(7, 0, 1), CoinNode.BAD);
        Due.is("script 6, of none", x.token(6, 0, 1), 1);
    }

    private static void scriptOfEachBlock() {
        CoinNode x = new CoinNode();
        for (int s = 1; s <= 7; s += 2) {
            Due.is("before, script " + s, x.token(s, 0, 1), 1);
            if (s < 5) x.mine(0, 1, s);
            else x.forge(1, s);
            Due.is("block of script " + s, x.token(s, 0, 1), CoinNode.BAD);
            Due.is("script " + (s - 1), x.token(s - 1, 0, 1), s == 1 ? CoinNode.BAD : 1);
        }
        x.deliver(1);
        x.deliver(2);
        Due.is("delivered", x.token(1, 0, 1), CoinNode.BAD);
        Due.is("delivered, and aside", x.token(3, 0, 1), CoinNode.BAD);
    }

    private static void scriptOfWhatWasRefused() {
        CoinNode x = new CoinNode();
        x.output(1, 1);
        Due.is("no input", x.make(), CoinNode.BAD);
        Due.is("script of a draft that was not made", x.token(1, 0, 1), 1);
        Due.is("work 10", x.mine(0, 10, 2), CoinNode.BAD);
        Due.is("no parent", x.mine(1, 1, 2), CoinNode.BAD);
        Due.is("script of a block that was not mined", x.token(2, 0, 1), 1);
        Due.is("work 0", x.forge(0, 3), CoinNode.BAD);
        Due.is("script of a block that was not forged", x.token(3, 0, 1), 1);
        Due.is("amount 0", x.output(0, 4), CoinNode.BAD);
        x.input(120, 1, 1);
        x.make();
        Due.is("script of an output that is not there", x.token(4, 0, 1), 1);
        Due.is("script of the one that is", x.token(1, 0, 1), CoinNode.BAD);
    }

    // Transactions 0, 1 and 2 have one, two and three outputs.
    private static void coinsOfTransactions() {
        boolean[] there = {true, false, false, true, true, false, true, true, true, false, false, false};
        for (int c = 0; c < there.length; c++) {
            CoinNode x = new CoinNode();
            Steps.spend(x, 120, 1);
            Steps.spend(x, 120, 1, 1);
            Steps.spend(x, 120, 1, 1, 1);
            Due.is("input of coin " + c, x.input(c, 1, 1), there[c] ? 1 : CoinNode.BAD);
            x.output(1, 0);
            Due.is("transaction of coin " + c, x.make(), there[c] ? 3 : CoinNode.BAD);
        }
    }

    private static void coinsOfAllTransactions() {
        CoinNode x = new CoinNode();
        for (int t = 0; t < 39; t++) Steps.spend(x, 120, 1, 1, 1);
        Due.is("coin 116 of transaction 38", x.input(116, 1, 1), 1);
        Due.is("coin 117 of transaction 39, which is not there", x.input(117, 1, 1), CoinNode.BAD);
        x.output(1, 0);
        x.output(1, 0);
        Due.is("transaction 39", x.make(), 39);
        Due.is("coin 119, output 2 of two", x.input(119, 1, 1), CoinNode.BAD);
        Due.is("coin 118", x.input(118, 1, 1), 1);
        Due.is("coin 117", x.input(117, 1, 1), 2);
        x.output(1, 0);
        Due.is("coin 120 is that of block 0", x.input(120, 1, 1), 3);
        Due.is("coin 121 is none of transaction 40", x.input(121, 1, 1), CoinNode.BAD);
    }

    private static void coinsOfBlocks() {
        CoinNode x = new CoinNode();
        for (int b = 1; b < 32; b++) {
            Due.is("coin of block " + b + ", which is not there", x.input(120 + b, 1, 1), CoinNode.BAD);
            x.mine(0, 1, 0);
        }
        Due.is("coin of block 31", x.input(151, 1, 1), 1);
        Due.is("coin 152", x.input(152, 1, 1), CoinNode.BAD);
        Due.is("coin of block 30", x.input(150, 1, 1), 2);
        Due.is("coin 119", x.input(119, 1, 1), CoinNode.BAD);
        Due.is("coin of block 0", x.input(120, 1, 1), 3);
    }

    private static void coinsBelowZero() {
        CoinNode x = new CoinNode();
        Steps.spend(x, 120, 1, 1, 1);
        for (int c : new int[] {LEAST, -121, -120, -4, -3, -2, -1}) Due.is("coin " + c, x.input(c, 1, 1), CoinNode.BAD);
        Due.is("coin 0", x.input(0, 1, 1), 1);
        Due.is("a great one", x.input(MOST, 1, 1), CoinNode.BAD);
    }

    private static void coinOnceInTheDraft() {
        CoinNode x = new CoinNode();
        for (int b = 0; b < 3; b++) x.mine(b, 1, 0);
        for (int i = 0; i < 3; i++) {
            Due.is("input " + i, x.input(120 + i, 1, 1), i + 1);
            for (int j = 0; j <= i; j++) Due.is("coin of input " + j + " again", x.input(120 + j, 2, 2), CoinNode.BAD);
        }
        x.output(1, 0);
        x.make();
        for (int i = 0; i < 3; i++) Due.is("in the next draft", x.input(122 - i, 1, 1), i + 1);
    }

    private static void fourthInputIsNotThere() {
        CoinNode x = Steps.nodeOfHeight(4);
        for (int i = 0; i < 3; i++) x.input(120 + i, 1, 1);
        Due.is("fourth", x.input(123, 1, 1), CoinNode.FULL);
        Due.is("fourth again", x.input(123, 1, 1), CoinNode.FULL);
        x.output(192, 0);
        int t = x.make();
        Due.is("the fourth is not in the next draft", x.input(123, 1, 1), 1);
        x.offer(t);
        Due.is("its fee", x.fee(0), 0);
        x.forge(1, 0);
        for (int i = 0; i < 4; i++) Due.is("coin " + i, x.coin(120 + i), i < 3 ? 1 : 2);
    }

    private static void amountsAndScripts() {
        for (int amount : new int[] {LEAST, -1000, -1, 0, 1, 2, 999, 1000, 1001, MOST}) {
            for (int script : new int[] {LEAST, -1, 0, 7, 8, MOST}) {
                boolean bad = amount < 1 || amount > 1000 || script < 0 || script > 7;
                String call = "output(" + amount + ", " + script + ")";
                Due.is(call, new CoinNode().output(amount, script), bad ? CoinNode.BAD : 1);
            }
        }
    }

    private static void fourthOutputIsNotThere() {
        CoinNode x = Steps.nodeOfHeight(2);
        x.input(120, 1, 1);
        for (int o = 1; o <= 3; o++) {
            Due.is("refused in between", x.output(1001, 1), CoinNode.BAD);
            Due.is("output " + o, x.output(10 * o, 1), o);
        }
        Due.is("fourth", x.output(4, 2), CoinNode.FULL);
        x.offer(x.make());
        Due.is("64 less 10, 20 and 30", x.fee(0), 4);
        Due.is("the fourth is not in the next draft", x.output(1, 3), 1);
        x.forge(1, 0);
        Due.is("three outputs", x.balance(1), 60);
        Due.is("no fourth", x.balance(2), 0);
        Due.is("the script of the fourth is free", x.token(2, 0, 1), 1);
    }

    private static void leastAndGreatestTransaction() {
        CoinNode x = Steps.nodeOfHeight(3);
        Due.is("neither", x.make(), CoinNode.BAD);
        Due.is("one input and one output", Steps.spend(x, 120, 1), 0);
        Due.is("three and three", Steps.join(x, new int[] {120, 121, 122}, 1, 1, 1), 1);
        x.offer(1);
        Due.is("three times 64 less 3", x.fee(0), 189);
        Due.is("one of its outputs", Steps.spend(x, 5, 1), 2);
        Due.is("it is in the pool", x.offer(2), 2);
        Due.is("none of the first's, which has one", x.input(1, 1, 1), CoinNode.BAD);
    }

    private static void draftStays() {
        CoinNode x = Steps.nodeOfHeight(3);
        x.input(120, 1, 1);
        x.input(121, 1, 1);
        Due.is("no output", x.make(), CoinNode.BAD);
        Due.is("no output still", x.make(), CoinNode.BAD);
        x.output(100, 0);
        Due.is("made", x.make(), 0);
        x.offer(0);
        Due.is("both inputs and the output are there", x.fee(0), 28);
        x.output(30, 0);
        x.output(20, 0);
        Due.is("no input", x.make(), CoinNode.BAD);
        x.input(122, 1, 1);
        Due.is("made", x.make(), 1);
        x.offer(1);
        Due.is("the input and both outputs are there", x.fee(1), 14);
        Due.is("empty then", x.make(), CoinNode.BAD);
    }

    private static void fortyTransactions() {
        CoinNode x = new CoinNode();
        for (int t = 0; t < 40; t++) {
            Due.is("put of " + t + ", which is not there", x.put(t), CoinNode.BAD);
            Due.is("transaction " + t, Steps.spend(x, 120, 1), t);
        }
        Due.is("put of 39", x.put(39), 1);
        Due.is("put of 40", x.put(40), CoinNode.BAD);
        Due.is("no input and no output", x.make(), CoinNode.BAD);
        x.input(120, 1, 1);
        Due.is("no output", x.make(), CoinNode.BAD);
        x.output(1, 0);
        Due.is("a 41st", x.make(), CoinNode.FULL);
        Due.is("a 41st again", x.make(), CoinNode.FULL);
        Due.is("the draft has its input", x.input(120, 1, 1), CoinNode.BAD);
        Due.is("and its output", x.output(1, 0), 2);
        Due.is("and takes a third output", x.output(1, 0), 3);
        Due.is("but no fourth", x.output(1, 0), CoinNode.FULL);
        Due.is("and another input", x.input(0, 1, 1), 2);
        Due.is("and a third", x.input(3, 1, 1), 3);
        Due.is("but no fourth", x.input(6, 1, 1), CoinNode.FULL);
        Due.is("put of 40 still", x.put(40), CoinNode.BAD);
        Due.is("offer of 40", x.offer(40), CoinNode.REFUSED);
    }

    private static void fifthPutIsNotThere() {
        CoinNode x = Steps.nodeOfHeight(2);
        int first = Steps.spend(x, 120, 60);
        for (int t = 1; t < 6; t++) Steps.spend(x, 3 * (t - 1), 60 - t);
        for (int t = first; t < 4; t++) Due.is("put " + t, x.put(t), t + 1);
        Due.is("fifth", x.put(4), CoinNode.FULL);
        Due.is("fifth", x.put(5), CoinNode.FULL);
        x.deliver(x.mine(2, 1, 0));
        for (int t = 0; t < 6; t++) Due.is("at " + t, x.at(t), t < 4 ? 3 : -1);
        Due.is("64 and the fees 4, 1, 1 and 1", x.block(3, 3), 71);
        Due.is("none are put then", x.put(5), 1);
    }

    private static void putAgain() {
        CoinNode x = new CoinNode();
        for (int t = 0; t < 5; t++) Steps.spend(x, 120, 1);
        for (int i = 1; i <= 4; i++) {
            Due.is("put " + i, x.put(i), i);
            for (int j = 1; j <= i; j++) Due.is("put " + j + " again", x.put(j), CoinNode.BAD);
            for (int t : new int[] {LEAST, -1, 5, MOST}) Due.is("put " + t, x.put(t), CoinNode.BAD);
        }
        Due.is("a fifth", x.put(0), CoinNode.FULL);
        Due.is("mine", x.mine(0, 1, 0), 1);
        for (int i = 1; i <= 4; i++) Due.is("for the next block", x.put(5 - i), i);
    }

    private static void parentWorkAndScript() {
        for (int parent : new int[] {LEAST, -1, 0, 2, 3, 31, 32, MOST}) {
            for (int work : new int[] {LEAST, -1, 0, 1, 9, 10, MOST}) {
                for (int script : new int[] {LEAST, -1, 0, 7, 8, MOST}) {
                    CoinNode x = Steps.nodeOfHeight(2);
                    boolean good = parent >= 0 && parent <= 2 && work >= 1 && work <= 9 && script >= 0 && script <= 7;
                    String call = "mine(" + parent + ", " + work + ", " + script + ")";
                    Due.is(call, x.mine(parent, work, script), good ? 3 : CoinNode.BAD);
                    Due.is(call + ": its height", x.block(3, 1), good ? parent + 1 : CoinNode.BAD);
                    Due.is(call + ": its work", x.block(3, 2), good ? parent + 1 + work : CoinNode.BAD);
                }
            }
        }
    }

    private static void refusedMineChangesNothing() {
        CoinNode x = Steps.nodeOfHeight(2);
        int t = Steps.spend(x, 120, 60);
        int u = Steps.spend(x, 121, 60);
        x.put(t);
        x.put(u);
        Due.is("no parent", x.mine(3, 1, 1), CoinNode.BAD);
        Due.is("work 0", x.mine(2, 0, 1), CoinNode.BAD);
        Due.is("script 8", x.mine(2, 1, 8), CoinNode.BAD);
        Due.is("no block came of that", x.block(3, 0), CoinNode.BAD);
        Due.is("it can't be delivered", x.deliver(3), CoinNode.BAD);
        Due.is("mine", x.mine(2, 1, 1), 3);
        Due.is("deliver", x.deliver(3), 1);
        Due.is("it has what was put", x.at(t), 3);
        Due.is("it has what was put", x.at(u), 3);
    }

    private static void thirtyTwoBlocks() {
        CoinNode x = Steps.nodeOfHeight(30);
        int t = Steps.spend(x, 120, 60);
        int u = Steps.spend(x, 121, 60);
        x.put(t);
        Due.is("block 31", x.mine(30, 1, 0), 31);
        x.put(u);
        Due.is("a 33rd", x.mine(30, 1, 1), CoinNode.FULL);
        Due.is("a 33rd again", x.mine(31, 9, 1), CoinNode.FULL);
        Due.is("what was put is still", x.put(u), CoinNode.BAD);
        Due.is("its script is free", x.token(1, 0, 1), 1);
        Due.is("block 32 is not there", x.block(32, 1), CoinNode.BAD);
        Due.is("nor can it be delivered", x.deliver(32), CoinNode.BAD);
        Due.is("block 31 can", x.deliver(31), 1);
        Due.is("its transaction", x.at(t), 31);
        Due.is("what was put for block 32", x.at(u), -1);
    }

    private static void badBeforeFull() {
        CoinNode x = new CoinNode();
        for (int i = 0; i < 8; i++) x.token(1, 0, 1);
        Due.is("token: FULL", x.token(1, 12, 8), CoinNode.FULL);
        Due.is("token: BAD op", x.token(1, 13, 0), CoinNode.BAD);
        Due.is("token: BAD op below", x.token(1, -1, 0), CoinNode.BAD);
        Due.is("token: BAD v", x.token(1, 12, 9), CoinNode.BAD);
        for (int b = 1; b < 32; b++) x.mine(0, 1, b == 31 ? 1 : 0);
        Due.is("token: BAD as in use", x.token(1, 0, 1), CoinNode.BAD);
        Due.is("mine: FULL", x.mine(31, 9, 7), CoinNode.FULL);
        Due.is("mine: BAD parent", x.mine(32, 9, 7), CoinNode.BAD);
        Due.is("mine: BAD parent below", x.mine(-1, 9, 7), CoinNode.BAD);
        Due.is("mine: BAD work", x.mine(31, 10, 7), CoinNode.BAD);
        Due.is("mine: BAD work below", x.mine(31, 0, 7), CoinNode.BAD);
        Due.is("mine: BAD script", x.mine(31, 9, 8), CoinNode.BAD);
        Due.is("mine: BAD script below", x.mine(31, 9, -1), CoinNode.BAD);
        for (int i = 0; i < 3; i++) x.input(120 + i, 1, 1);
        Due.is("input: FULL", x.input(123, 1, 1), CoinNode.FULL);
        for (int i = 0; i < 3; i++) Due.is("input: BAD as in the draft", x.input(120 + i, 1, 1), CoinNode.BAD);
        Due.is("input: BAD coin", x.input(152, 1, 1), CoinNode.BAD);
        Due.is("input: BAD coin below", x.input(-1, 1, 1), CoinNode.BAD);
        Due.is("input: BAD coin of no transaction", x.input(0, 1, 1), CoinNode.BAD);
        for (int i = 0; i < 3; i++) x.output(1, 0);
        Due.is("output: FULL", x.output(1000, 7), CoinNode.FULL);
        Due.is("output: BAD amount", x.output(1001, 7), CoinNode.BAD);
        Due.is("output: BAD amount below", x.output(0, 7), CoinNode.BAD);
        Due.is("output: BAD script", x.output(1, 8), CoinNode.BAD);
        Due.is("output: BAD script below", x.output(1, -1), CoinNode.BAD);
        x.make();
        for (int t = 1; t < 40; t++) Steps.spend(x, 120, 1);
        Due.is("make: BAD", x.make(), CoinNode.BAD);
        x.output(1, 0);
        Due.is("make: BAD without input", x.make(), CoinNode.BAD);
        x.input(120, 1, 1);
        Due.is("make: FULL", x.make(), CoinNode.FULL);
        for (int t = 0; t < 4; t++) x.put(t);
        Due.is("put: FULL", x.put(39), CoinNode.FULL);
        for (int t = 0; t < 4; t++) Due.is("put: BAD as put already", x.put(t), CoinNode.BAD);
        Due.is("put: BAD as not there", x.put(40), CoinNode.BAD);
        Due.is("put: BAD below", x.put(-1), CoinNode.BAD);
    }
}
