// The edges of chains: arrivals, what makes a chain VALID, REWARDs, the same work, and the questions about what
// is ACTIVE, with as many blocks and transactions as there can be.
public final class ChainEdgesTest {
    private static final int LEAST = Integer.MIN_VALUE, MOST = Integer.MAX_VALUE;
    private static final int MADE = 0, WAITS = 1, INVALID = 2, ASIDE = 3, ACTIVE = 4;

    public static void main(String[] args) {
        deliverOutside();
        allArriveAtOnce();
        blocksBehindSeveral();
        rewardsHalveByHeight();
        forgedRewardsHalve();
        rewardOfNothing();
        feesOfFourTransactions();
        rewardsOnBothSides();
        eachInputMustBeThere();
        eachInputMustBeUnspent();
        eachInputMustFit();
        eachTransactionOfABlock();
        coinsOfThePoolAreNotInTheChain();
        coinsOfTheOtherChain();
        feesOnBothSides();
        invalidBelow();
        invalidIsNotTheTip();
        workOnBothSides();
        sameWorkByArrival();
        sameWorkByArrivalNotDelivery();
        sameWorkOfBlocksThatWaited();
        statesOfABlock();
        questionsAboutBlocks();
        fullNode();
        lastTransactionAlone();
        balancesOfAllScripts();
        lastCall();
        Due.end();
    }

    private static void deliverOutside() {
        CoinNode x = new CoinNode();
        x.mine(0, 1, 0);
        x.mine(1, 1, 0);
        for (int b : new int[] {LEAST, -1, 0, 3, 31, 32, MOST}) Due.is("deliver " + b, x.deliver(b), CoinNode.BAD);
        Due.is("nothing came of that", x.active(1), -1);
        Due.is("deliver 2", x.deliver(2), 0);
        Due.is("deliver 2, which waits", x.deliver(2), CoinNode.BAD);
        Due.is("deliver 1", x.deliver(1), 2);
        for (int b = 0; b < 3; b++) Due.is("deliver " + b + ", which is ACTIVE", x.deliver(b), CoinNode.BAD);
        int t = Steps.spend(x, 122, 1);
        int bad = Steps.mined(x, 2, 1, t);
        Due.is("deliver one that is not VALID", x.deliver(bad), CoinNode.BAD);
        int aside = Steps.mined(x, 1, 1);
        Due.is("deliver one that is aside", x.deliver(aside), CoinNode.BAD);
        int forged = x.forge(1, 0);
        Due.is("deliver a forged one", x.deliver(forged), CoinNode.BAD);
        Due.is("it stays the tip", x.active(3), forged);
    }

    private static void allArriveAtOnce() {
        CoinNode x = new CoinNode();
        for (int b = 1; b < 32; b++) x.mine(b - 1, 1, 0);
        for (int b = 31; b > 1; b--) {
            Due.is("deliver " + b, x.deliver(b), 0);
            Due.is("it waits", x.block(b, 0), WAITS);
        }
        Due.is("deliver 1", x.deliver(1), 31);
        for (int b = 0; b < 32; b++) Due.is("active(" + b + ")", x.active(b), b);
    }

    private static void blocksBehindSeveral() {
        CoinNode x = new CoinNode();
        x.mine(0, 1, 0);
        x.mine(0, 1, 0);
        x.mine(1, 1, 0);
        x.mine(2, 1, 0);
        x.mine(3, 1, 0);
        x.mine(4, 1, 0);
        for (int b = 6; b > 2; b--) Due.is("deliver " + b, x.deliver(b), 0);
        Due.is("2 and those behind it", x.deliver(2), 3);
        Due.is("5 waits still", x.block(5, 0), WAITS);
        Due.is("6 is the tip", x.active(3), 6);
        Due.is("1 and those behind it", x.deliver(1), 3);
        Due.is("6 is the tip still", x.active(3), 6);
        Due.is("5 is aside", x.block(5, 0), ASIDE);
    }

    // A side chain: the numbers of its blocks are far above their heights.
    private static void rewardsHalveByHeight() {
        CoinNode x = Steps.nodeOfHeight(9);
        int[] due = {64, 64, 64, 64, 32, 32, 32, 32, 16, 16};
        int parent = 0;
        for (int h = 1; h <= 9; h++) {
            parent = Steps.mined(x, parent, 1);
            Due.is("a block aside", x.block(parent, 0), ASIDE);
            Due.is("reward of height " + h, x.block(parent, 3), due[h]);
            Due.is("its number", parent, 9 + h);
        }
        int last = Steps.mined(x, parent, 1);
        Due.is("reward of height 10", x.block(last, 3), 16);
        Due.is("four of 64, four of 32 and three of 16", x.balance(0), 432);
    }

    private static void forgedRewardsHalve() {
        CoinNode x = new CoinNode();
        int[] due = {64, 32, 16, 8, 4, 2, 1, 0};
        for (int h = 1; h < 32; h++) Due.is("reward of height " + h, x.block(x.forge(1, 0), 3), due[h / 4]);
        Due.is("all of them", x.balance(0), 508);
    }

    // Rewards of height 28 and above have no amount; they are coins all the same.
    private static void rewardOfNothing() {
        CoinNode x = Steps.nodeOfHeight(29);
        Due.is("height 27", x.block(27, 3), 1);
        Due.is("height 28", x.block(28, 3), 0);
        Due.is("a coin of 0", x.coin(148), 2);
        int below = Steps.spend(x, 148, 1);
        Due.is("its output is more than it", x.offer(below), CoinNode.LATE);
        int t = Steps.join(x, new int[] {147, 148}, 1);
        Due.is("with one of 1", x.offer(t), 1);
        Due.is("a fee of 0", x.fee(0), 0);
        int b = x.forge(1, 0);
        Due.is("reward of height 30", x.block(b, 3), 0);
        Due.is("the coin of 0 is spent", x.coin(148), 1);
        Due.is("and that of 1", x.coin(147), 1);
    }

    private static void feesOfFourTransactions() {
        CoinNode x = Steps.nodeOfHeight(6);
        int[] t = new int[5];
        int[] fees = {1, 10, 5, 20, 30};
        for (int i = 0; i < 5; i++) t[i] = Steps.spend(x, 120 + i, (i < 4 ? 64 : 32) - fees[i]);
        for (int count = 0; count <= 4; count++) {
            int due = 32;
            for (int i = 0; i < count; i++) {
                x.put(t[i]);
                due += fees[i];
            }
            int b = x.mine(6, 1, 0);
            Due.is("before it arrives", x.block(b, 3), 0);
            x.deliver(b);
            Due.is("32 and the fees of " + count, x.block(b, 3), due);
        }
    }

    private static void rewardsOnBothSides() {
        CoinNode x = Steps.nodeOfHeight(4);
        for (int b = 0; b <= 4; b++) Steps.spend(x, 120 + b, 1);
        for (int b = 0; b <= 4; b++) {
            int block = Steps.mined(x, 4, 1, b);
            int due = b > 3 ? INVALID : b == 0 ? ACTIVE : ASIDE;
            Due.is("reward of height " + b + " in a block of height 5", x.block(block, 0), due);
        }
        CoinNode y = Steps.nodeOfHeight(4);
        for (int b = 0; b <= 4; b++) Steps.spend(y, 120 + b, 1);
        for (int b = 0; b <= 4; b++) {
            Due.is("reward of height " + b + " behind a tip of height 4", y.offer(b), b > 3 ? CoinNode.LATE : b + 1);
        }
        int side = Steps.mined(y, 3, 1);
        int t = Steps.spend(y, 120 + side, 1);
        Due.is("on the side chain, 1 less", y.block(Steps.mined(y, side, 1, t), 0), INVALID);
        int more = Steps.mined(y, side, 1);
        Due.is("on the side chain, 2 less", y.block(Steps.mined(y, more, 1, t), 0), ACTIVE);
    }

    // Three coins, the one at a place being wrong.
    private static int[] threeCoins(int place, int wrong) {
        int[] coins = {120, 121, 122};
        coins[place] = wrong;
        return coins;
    }

    private static void eachInputMustBeThere() {
        for (int place = 0; place < 3; place++) {
            CoinNode x = Steps.nodeOfHeight(4);
            int apart = Steps.mined(x, 0, 1);
            int lost = Steps.spend(x, 120 + place, 10);
            int ofSide = Steps.join(x, threeCoins(place, 120 + apart), 1);
            int ofNone = Steps.join(x, threeCoins(place, 3 * lost), 1);
            int good = Steps.join(x, new int[] {120, 121, 122}, 1);
            Due.is("input " + place + " of a side chain, in the pool", x.offer(ofSide), CoinNode.LATE);
            Due.is("input " + place + " of no block, in the pool", x.offer(ofNone), CoinNode.LATE);
            Due.is("input " + place + " of a side chain", x.block(Steps.mined(x, 4, 1, ofSide), 0), INVALID);
            Due.is("input " + place + " of no block", x.block(Steps.mined(x, 4, 1, ofNone), 0), INVALID);
            Due.is("all there, in the pool", x.offer(good), 1);
            Due.is("all there", x.block(Steps.mined(x, 4, 1, good), 0), ACTIVE);
        }
    }

    private static void eachInputMustBeUnspent() {
        for (int place = 0; place < 3; place++) {
            CoinNode x = Steps.nodeOfHeight(4);
            int first = Steps.spend(x, 120 + place, 10);
            int all = Steps.join(x, new int[] {120, 121, 122}, 1);
            Due.is("input " + place + " spent in the block", x.block(Steps.mined(x, 4, 1, first, all), 0), INVALID);
            int b = Steps.mined(x, 4, 1, first);
            Due.is("input " + place + " spent below", x.block(Steps.mined(x, b, 1, all), 0), INVALID);
            Due.is("input " + place + " spent, in the pool", x.offer(all), CoinNode.LATE);
            Due.is("spent in another chain", x.block(Steps.mined(x, 4, 2, all), 0), ACTIVE);
        }
    }

    private static void eachInputMustFit() {
        for (int place = -1; place < 3; place++) {
            CoinNode x = Steps.nodeOfHeight(4);
            for (int i = 0; i < 3; i++) x.input(120 + i, 1, i == place ? 0 : 1);
            x.output(1, 0);
            int t = x.make();
            Due.is("input " + place + " does not fit, in the pool", x.offer(t), place < 0 ? 1 : CoinNode.LATE);
            Due.is("input " + place + " does not fit", x.block(Steps.mined(x, 4, 1, t), 0), place < 0 ? ACTIVE : INVALID);
        }
    }

    private static void eachTransactionOfABlock() {
        for (int place = -1; place < 4; place++) {
            CoinNode x = Steps.nodeOfHeight(6);
            int[] row = new int[4];
            for (int i = 0; i < 4; i++) row[i] = Steps.spend(x, i == place ? 126 : 120 + i, 1);
            int b = Steps.mined(x, 6, 1, row);
            Due.is("transaction " + place + " is wrong", x.block(b, 0), place < 0 ? ACTIVE : INVALID);
            for (int t : row) Due.is("at", x.at(t), place < 0 ? 7 : -1);
        }
    }

    private static void coinsOfThePoolAreNotInTheChain() {
        CoinNode x = Steps.nodeOfHeight(3);
        int t = Steps.spend(x, 120, 60);
        int u = Steps.spend(x, 3 * t, 50);
        x.offer(t);
        x.offer(u);
        Due.is("a coin of the pool", x.block(Steps.mined(x, 3, 1, u), 0), INVALID);
        Steps.poolIs("both stay", x, t, u);
        Due.is("a coin of the pool, which comes later in the block", x.block(Steps.mined(x, 3, 1, u, t), 0), INVALID);
        Due.is("a coin of the pool, which comes before", x.block(Steps.mined(x, 3, 1, t, u), 0), ACTIVE);
    }

    private static void coinsOfTheOtherChain() {
        CoinNode x = Steps.nodeOfHeight(3);
        int t = Steps.spend(x, 120, 60);
        int u = Steps.spend(x, 3 * t, 50);
        int a = Steps.mined(x, 3, 1, t);
        int side = Steps.mined(x, 3, 1);
        Due.is("a coin that is ACTIVE, but not in this chain", x.block(Steps.mined(x, side, 9, u), 0), INVALID);
        int again = Steps.mined(x, side, 9, t);
        Due.is("t in this chain, too", x.block(again, 0), ACTIVE);
        Due.is("and u behind it", x.block(Steps.mined(x, again, 1, u), 0), ACTIVE);
        Due.is("u behind a, in the other", x.block(Steps.mined(x, a, 1, u), 0), ASIDE);
        Due.is("t twice", x.block(Steps.mined(x, a, 9, t), 0), INVALID);
    }

    private static void feesOnBothSides() {
        for (int fee = -2; fee <= 2; fee++) {
            CoinNode x = Steps.nodeOfHeight(4);
            int one = Steps.spend(x, 120, 64 - fee);
            int three = Steps.join(x, new int[] {120, 121, 122}, 100, 50, 42 - fee);
            Due.is("a fee of " + fee + ", in the pool", x.offer(three), fee < 0 ? CoinNode.LATE : 1);
            Due.is("fee(0)", x.fee(0), fee < 0 ? 0 : fee);
            int a = Steps.mined(x, 4, 1, one);
            Due.is("a fee of " + fee, x.block(a, 0), fee < 0 ? INVALID : ACTIVE);
            int b = Steps.mined(x, 4, 2, three);
            Due.is("a fee of " + fee + " of three", x.block(b, 0), fee < 0 ? INVALID : ACTIVE);
            Due.is("the reward", x.block(b, 3), fee < 0 ? 0 : 32 + fee);
        }
        CoinNode y = Steps.nodeOfHeight(4);
        int loss = Steps.spend(y, 120, 74);
        int gain = Steps.spend(y, 121, 4);
        Due.is("one of -10 and one of 60", y.block(Steps.mined(y, 4, 1, gain, loss), 0), INVALID);
    }

    private static void invalidBelow() {
        CoinNode x = Steps.nodeOfHeight(3);
        int bad = Steps.mined(x, 3, 1, Steps.spend(x, 123, 1));
        int parent = bad;
        for (int i = 0; i < 4; i++) {
            x.mine(parent, 9, 0);
            parent++;
            Due.is("made", x.block(parent, 0), MADE);
            Due.is("it arrives", x.deliver(parent), 1);
            Due.is("behind one that is not VALID", x.block(parent, 0), INVALID);
            Due.is("no reward", x.block(parent, 3), 0);
            Due.is("its coin", x.coin(120 + parent), 0);
        }
        Due.is("its height", x.block(parent, 1), 8);
        Due.is("its work", x.block(parent, 2), 41);
        Due.is("the tip stays", x.active(4), -1);
        int t = Steps.spend(x, 120 + bad, 1);
        Due.is("a coin of such a block", x.offer(t), CoinNode.LATE);
        Due.is("a coin of such a block, behind it", x.block(Steps.mined(x, parent, 1, t), 0), INVALID);
    }

    private static void invalidIsNotTheTip() {
        CoinNode x = Steps.nodeOfHeight(3);
        int t = Steps.spend(x, 123, 1);
        Due.is("more work, not VALID", x.block(Steps.mined(x, 3, 9, t), 0), INVALID);
        Due.is("the tip stays", x.active(4), -1);
        int next = Steps.mined(x, 3, 1);
        Due.is("less work than that, but VALID", x.active(4), next);
        int forged = x.forge(1, 0);
        Due.is("forged on the tip", x.active(5), forged);
    }

    private static void workOnBothSides() {
        for (int work = 1; work <= 9; work++) {
            CoinNode x = new CoinNode();
            Steps.mined(x, Steps.mined(x, 0, 2), 3);
            int b = Steps.mined(x, 0, work);
            Due.is("5 against " + work, x.block(b, 0), work > 5 ? ACTIVE : ASIDE);
            Due.is("block 2", x.block(2, 0), work > 5 ? ASIDE : ACTIVE);
            Due.is("work of its chain", x.block(b, 2), 1 + work);
            Due.is("height 1", x.active(1), work > 5 ? b : 1);
            Due.is("height 2", x.active(2), work > 5 ? -1 : 2);
        }
    }

    private static void sameWorkByArrival() {
        for (int first = 1; first <= 3; first++) {
            CoinNode x = new CoinNode();
            for (int b = 1; b <= 3; b++) x.mine(0, 4, 0);
            x.deliver(first);
            for (int b = 1; b <= 3; b++) {
                x.deliver(b);
                Due.is("the first stays", x.active(1), first);
            }
            int other = first == 2 ? 3 : 2;
            int behind = Steps.grow(x, other);
            Due.is("until another has more", x.active(1), other);
            Due.is("by the least", x.active(2), behind);
            Steps.grow(x, first);
            Due.is("then that one is the first", x.active(1), other);
        }
    }

    // Block 2 is delivered first, but its parent comes last.
    private static void sameWorkByArrivalNotDelivery() {
        CoinNode x = new CoinNode();
        x.mine(0, 1, 0);
        x.mine(1, 2, 0);
        x.mine(0, 3, 0);
        x.deliver(2);
        x.deliver(3);
        Due.is("3 has arrived", x.active(1), 3);
        Due.is("1 and 2 arrive", x.deliver(1), 2);
        Due.is("3 arrived before 2", x.active(1), 3);
        Due.is("2 is aside", x.block(2, 0), ASIDE);
    }

    private static void sameWorkOfBlocksThatWaited() {
        CoinNode x = new CoinNode();
        x.mine(0, 1, 0);
        for (int b = 2; b <= 4; b++) x.mine(1, 5, 0);
        x.mine(2, 1, 0);
        x.mine(4, 1, 0);
        for (int b : new int[] {6, 4, 3, 2, 5}) Due.is("deliver " + b, x.deliver(b), 0);
        Due.is("deliver 1", x.deliver(1), 6);
        Due.is("5 arrived before 6", x.active(3), 5);
        Due.is("6", x.block(6, 0), ASIDE);
        Due.is("4", x.block(4, 0), ASIDE);
    }

    private static void statesOfABlock() {
        CoinNode x = Steps.nodeOfHeight(2);
        int a = x.mine(2, 1, 0);
        int b = x.mine(a, 1, 0);
        int other = x.mine(2, 3, 0);
        x.put(Steps.spend(x, 122, 1));
        int bad = x.mine(2, 1, 0);
        Due.is("made", x.block(b, 0), MADE);
        x.deliver(b);
        Due.is("waits", x.block(b, 0), WAITS);
        Due.is("reward while it waits", x.block(b, 3), 0);
        x.deliver(a);
        Due.is("ACTIVE", x.block(b, 0), ACTIVE);
        Due.is("its reward", x.block(b, 3), 32);
        x.deliver(other);
        Due.is("aside", x.block(b, 0), ASIDE);
        Due.is("its reward still", x.block(b, 3), 32);
        Due.is("its height", x.block(b, 1), 4);
        Due.is("its work", x.block(b, 2), 5);
        x.deliver(bad);
        Due.is("not VALID", x.block(bad, 0), INVALID);
        Due.is("no reward", x.block(bad, 3), 0);
        Due.is("its height", x.block(bad, 1), 3);
        Due.is("its work", x.block(bad, 2), 4);
    }

    private static void questionsAboutBlocks() {
        for (int last = 0; last < 32; last++) {
            CoinNode x = new CoinNode();
            for (int h = 0; h < last; h++) Steps.mined(x, h, 2);
            for (int b : new int[] {LEAST, -1, 0, last, last + 1, 32, MOST}) {
                for (int what : new int[] {LEAST, -1, 0, 1, 2, 3, 4, MOST}) {
                    boolean there = b >= 0 && b <= last && what >= 0 && what <= 3;
                    int[] due = {ACTIVE, b, 2 * b + 1, there ? 64 >> (b / 4) : 0};
                    Due.is("block(" + b + ", " + what + ")", x.block(b, what), there ? due[what] : CoinNode.BAD);
                }
            }
            for (int h : new int[] {LEAST, -1, 0, last, last + 1, 32, MOST}) {
                Due.is("active(" + h + ")", x.active(h), h >= 0 && h <= last ? h : -1);
            }
        }
    }

    // 31 blocks behind block 0, and 40 transactions, all ACTIVE; the last one has three outputs.
    private static void fullNode() {
        CoinNode x = Steps.nodeOfHeight(1);
        Steps.spend(x, 120, 60);
        for (int t = 1; t < 39; t++) Steps.spend(x, 3 * (t - 1), 60 - t);
        Steps.spend(x, 114, 1, 2, 3);
        for (int h = 2; h < 32; h++) {
            boolean two = h < 12;
            int t = two ? 2 * (h - 2) : h + 8;
            x.put(t);
            if (two) x.put(t + 1);
            x.deliver(x.mine(h - 1, 1, 0));
            Due.is("at of " + t, x.at(t), h);
            Due.is("at of the last in the block", x.at(two ? t + 1 : t), h);
            Due.is("at of the next", x.at(two ? t + 2 : t + 1), -1);
        }
        for (int t : new int[] {LEAST, -1, 40, MOST}) Due.is("at(" + t + ")", x.at(t), -1);
        for (int c : new int[] {LEAST, -1, 152, MOST}) Due.is("coin(" + c + ")", x.coin(c), 0);
        for (int c = 0; c < 117; c++) Due.is("coin(" + c + ")", x.coin(c), c % 3 == 0 ? 1 : 0);
        for (int c = 117; c < 152; c++) Due.is("coin(" + c + ")", x.coin(c), c == 120 ? 1 : 2);
        Due.is("at(39)", x.at(39), 31);
        Due.is("block 31", x.block(31, 0), ACTIVE);
        Due.is("its reward is the fee alone", x.block(31, 3), 16);
        Due.is("all coins", x.balance(0), 508);
    }

    private static void lastTransactionAlone() {
        CoinNode x = Steps.nodeOfHeight(2);
        for (int t = 0; t < 39; t++) Steps.spend(x, 120, 1);
        Steps.spend(x, 121, 1, 2);
        Due.is("before", x.coin(118), 0);
        Steps.mined(x, 2, 1, 39);
        for (int t = 0; t < 40; t++) Due.is("at " + t, x.at(t), t == 39 ? 3 : -1);
        for (int c = 0; c < 120; c++) Due.is("coin " + c, x.coin(c), c == 117 || c == 118 ? 2 : 0);
        Due.is("the coin that it spent", x.coin(121), 1);
        Due.is("the coin that it did not", x.coin(120), 2);
    }

    private static void balancesOfAllScripts() {
        CoinNode x = new CoinNode();
        for (int s = 1; s < 8; s++) x.deliver(x.mine(s - 1, 1, s));
        for (int s = 0; s < 8; s++) Due.is("balance(" + s + ")", x.balance(s), s < 4 ? 64 : 32);
        for (int s : new int[] {LEAST, -1, 8, 120, MOST}) Due.is("balance(" + s + ")", x.balance(s), 0);
        x.input(121, 1, 1);
        x.input(122, 1, 1);
        x.output(1, 7);
        x.output(100, 0);
        x.output(2, 7);
        int t = x.make();
        x.offer(t);
        Due.is("while it is in the pool", x.balance(7), 32);
        int b = x.forge(1, 7);
        Due.is("16, the fee 25, and three coins of 1, 2 and 32", x.balance(7), 76);
        Due.is("64 and 100", x.balance(0), 164);
        Due.is("spent", x.balance(1), 0);
        Due.is("spent", x.balance(2), 0);
        Due.is("not spent", x.balance(3), 64);
        Steps.mined(x, 6, 9);
        Due.is("block 8 is aside", x.block(b, 0), ASIDE);
        Due.is("its coins do not count, nor those of block 7", x.balance(7), 0);
        Due.is("those that it spent do", x.balance(1), 64);
        Due.is("64 and the reward of 32", x.balance(0), 96);
    }

    // An object is used for at most 512 calls: the last of them answers as the first does.
    private static void lastCall() {
        CoinNode x = new CoinNode();
        for (int i = 0; i < 504; i++) Due.is("call " + i, x.offer(i % 50), CoinNode.REFUSED);
        Due.is("call 505", x.forge(1, 0), 1);
        Due.is("call 506", x.forge(1, 0), 2);
        Due.is("call 507", x.input(120, 1, 1), 1);
        Due.is("call 508", x.output(60, 0), 1);
        Due.is("call 509", x.make(), 0);
        Due.is("call 510", x.offer(0), 1);
        Due.is("call 511", x.forge(1, 0), 3);
        Due.is("call 512", x.at(0), 3);
    }
}
