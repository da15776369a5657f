// The edges of the pool: REFUSED, LATE, CHEAP, FULL, RIVALS, the pool made anew, and blocks forged from it.
public final class PoolEdgesTest {
    private static final int LEAST = Integer.MIN_VALUE, MOST = Integer.MAX_VALUE;

    public static void main(String[] args) {
        refusedOnBothSides();
        refusedBeforeLate();
        lateByACoinThatLeftThePool();
        lateChangesNothing();
        cheapOnBothSides();
        cheapAtNothing();
        rivalsCountOnce();
        rivalsOfEachInput();
        rivalsInALongRow();
        rivalsByTheSecondInput();
        noRivalsByTheSameParent();
        lateByEachOutputOfARival();
        placesInThePool();
        fullOnBothSides();
        fullChangesNothing();
        fullAndRivals();
        anewWithTwelve();
        anewWithMoreThanTwelve();
        anewWithFortyTransactions();
        anewInTheOrderOfBlocks();
        anewWhatIsActiveThere();
        anewWhatIsSpentThere();
        anewWithAYoungerReward();
        anewWithAYoungerOutput();
        anewWithAnOutputOfThePool();
        anewWithoutTheParent();
        anewOnlyWithANewTip();
        forgeOfSome();
        forgeOnBothSidesOfAFee();
        forgeAfterCheap();
        forgeRefused();
        forgeLeavesWhatWasPut();
        Due.end();
    }

    // With a fee of -1 each is LATE as soon as it is there.
    private static void refusedOnBothSides() {
        CoinNode x = Steps.nodeOfHeight(2);
        for (int t = 0; t < 40; t++) {
            for (int n : new int[] {LEAST, -1, t, t + 1, 40, MOST}) Due.is("offer " + n, x.offer(n), CoinNode.REFUSED);
            Steps.spend(x, 120, 65);
            Due.is("offer " + t + ", which is there", x.offer(t), CoinNode.LATE);
        }
        Due.is("offer 40", x.offer(40), CoinNode.REFUSED);
    }

    private static void refusedBeforeLate() {
        CoinNode x = Steps.nodeOfHeight(3);
        int t = Steps.spend(x, 120, 60);
        Due.is("offered", x.offer(t), 1);
        Due.is("in the pool: not CHEAP, not LATE", x.offer(t), CoinNode.REFUSED);
        Due.is("still one", x.pool(1), -1);
        int b = x.forge(1, 0);
        Due.is("ACTIVE: not LATE", x.offer(t), CoinNode.REFUSED);
        Steps.mined(x, 3, 9);
        Steps.poolIs("back in the pool", x, t);
        Due.is("in the pool again", x.offer(t), CoinNode.REFUSED);
        Steps.mined(x, b, 9);
        Due.is("ACTIVE again", x.offer(t), CoinNode.REFUSED);
        Steps.poolIs("and not in the pool", x);
    }

    private static void lateByACoinThatLeftThePool() {
        CoinNode x = Steps.nodeOfHeight(3);
        int t = Steps.spend(x, 120, 60);
        int child = Steps.spend(x, 3 * t, 50);
        int better = Steps.spend(x, 120, 59);
        Due.is("before t is in", x.offer(child), CoinNode.LATE);
        x.offer(t);
        x.offer(better);
        Due.is("after t is out", x.offer(child), CoinNode.LATE);
        Steps.poolIs("one", x, better);
        Steps.mined(x, 3, 1, better);
        Due.is("the coin is spent for good", x.offer(child), CoinNode.LATE);
        Due.is("and t itself", x.offer(t), CoinNode.LATE);
    }

    private static void lateChangesNothing() {
        CoinNode x = Steps.nodeOfHeight(3);
        int t = Steps.spend(x, 120, 60);
        x.offer(t);
        int below = Steps.spend(x, 120, 65);
        Due.is("a fee of -1 and a rival", x.offer(below), CoinNode.LATE);
        int young = Steps.join(x, new int[] {120, 123}, 1);
        Due.is("a young reward and a rival", x.offer(young), CoinNode.LATE);
        int ofRival = Steps.join(x, new int[] {120, 3 * t}, 1);
        Due.is("an output of its rival", x.offer(ofRival), CoinNode.LATE);
        Steps.poolIs("the rival stays", x, t);
        Due.is("its fee", x.fee(0), 4);
    }

    private static void cheapOnBothSides() {
        for (int more = -1; more <= 1; more++) {
            CoinNode x = Steps.nodeOfHeight(3);
            int t = Steps.spend(x, 120, 54);
            int child = Steps.spend(x, 3 * t, 49);
            int apart = Steps.spend(x, 122, 1);
            int u = Steps.spend(x, 121, 57);
            for (int n : new int[] {t, child, apart, u}) x.offer(n);
            int rival = Steps.join(x, new int[] {121, 120}, 128 - 22 - more);
            Due.is("fees of 10, 5 and 7 against " + (22 + more), x.offer(rival), more > 0 ? 2 : CoinNode.CHEAP);
            if (more > 0) Steps.poolIs("they go", x, apart, rival);
            else Steps.poolIs("they stay", x, t, child, apart, u);
        }
    }

    private static void cheapAtNothing() {
        CoinNode x = Steps.nodeOfHeight(2);
        int t = Steps.spend(x, 120, 64);
        int same = Steps.spend(x, 120, 32, 32);
        int more = Steps.spend(x, 120, 63);
        Due.is("a fee of 0", x.offer(t), 1);
        Due.is("a fee of 0 against it", x.offer(same), CoinNode.CHEAP);
        Due.is("a fee of 1", x.offer(more), 1);
        Steps.poolIs("at last", x, more);
    }

    // The fee of one that shares two coins, or that follows two RIVALS, counts once.
    private static void rivalsCountOnce() {
        CoinNode x = Steps.nodeOfHeight(3);
        int t = Steps.join(x, new int[] {120, 121}, 118);
        x.offer(t);
        int rival = Steps.join(x, new int[] {121, 120}, 117);
        Due.is("a fee of 10 against 11", x.offer(rival), 1);
        CoinNode y = Steps.nodeOfHeight(3);
        int one = Steps.spend(y, 120, 63);
        int two = Steps.spend(y, 121, 63);
        int both = Steps.join(y, new int[] {3 * one, 3 * two}, 116);
        for (int n : new int[] {one, two, both}) y.offer(n);
        int same = Steps.join(y, new int[] {120, 121}, 116);
        int better = Steps.join(y, new int[] {120, 121}, 115);
        Due.is("fees of 1, 1 and 10 against 12", y.offer(same), CoinNode.CHEAP);
        Due.is("fees of 1, 1 and 10 against 13", y.offer(better), 1);
        Steps.poolIs("all go", y, better);
    }

    private static void rivalsOfEachInput() {
        for (int place = 0; place < 3; place++) {
            for (int other = 0; other < 3; other++) {
                CoinNode x = Steps.nodeOfHeight(7);
                int[] mine = {120, 121, 122};
                int[] theirs = {123, 124, 125};
                theirs[other] = 120 + place;
                int t = Steps.join(x, theirs, 1);
                int rival = Steps.join(x, mine, 100);
                x.offer(t);
                String name = "input " + place + " as its input " + other;
                Due.is(name, x.offer(rival), CoinNode.CHEAP);
                Steps.poolIs(name, x, t);
            }
        }
        CoinNode y = Steps.nodeOfHeight(7);
        int t = Steps.join(y, new int[] {123, 124, 125}, 1);
        int apart = Steps.join(y, new int[] {120, 121, 122}, 100);
        y.offer(t);
        Due.is("no coin in common", y.offer(apart), 2);
    }

    // Each has the output of the one before: a rival of one has all behind it as RIVALS.
    private static void rivalsInALongRow() {
        for (int first = 0; first < 12; first++) {
            CoinNode x = row(12);
            int coin = first == 0 ? 120 : 3 * (first - 1);
            int worth = 64 - first;
            int theirs = 12 - first;
            int same = Steps.spend(x, coin, worth - theirs);
            int more = Steps.spend(x, coin, worth - theirs - 1);
            Due.is("as much as " + theirs + " fees of 1", x.offer(same), CoinNode.CHEAP);
            Due.is("still 12", x.pool(11), 11);
            Due.is("one more", x.offer(more), first + 1);
            int[] due = new int[first + 1];
            for (int k = 0; k < first; k++) due[k] = k;
            due[first] = more;
            Steps.poolIs("those before " + first + " stay", x, due);
        }
    }

    // Transactions 0, 1, .. in the pool, of fees of 1, each with the output of the one before.
    private static CoinNode row(int count) {
        CoinNode x = Steps.nodeOfHeight(2);
        for (int t = 0; t < count; t++) {
            Steps.spend(x, t == 0 ? 120 : 3 * (t - 1), 63 - t);
            Due.is("the pool's row", x.offer(t), t + 1);
        }
        return x;
    }

    private static void rivalsByTheSecondInput() {
        CoinNode x = Steps.nodeOfHeight(5);
        int t = Steps.spend(x, 120, 60);
        int apart = Steps.spend(x, 121, 60);
        int child = Steps.join(x, new int[] {122, 3 * apart, 3 * t}, 180);
        int grandchild = Steps.join(x, new int[] {123, 3 * child}, 240);
        for (int n : new int[] {apart, t, child, grandchild}) x.offer(n);
        int same = Steps.spend(x, 120, 52);
        int more = Steps.spend(x, 120, 51);
        Due.is("fees of 4, 4 and 4 against 12", x.offer(same), CoinNode.CHEAP);
        Due.is("fees of 4, 4 and 4 against 13", x.offer(more), 2);
        Steps.poolIs("the other parent stays", x, apart, more);
    }

    private static void noRivalsByTheSameParent() {
        CoinNode x = Steps.nodeOfHeight(2);
        int t = Steps.spend(x, 120, 20, 20, 20);
        x.offer(t);
        for (int o = 0; o < 3; o++) Due.is("output " + o, x.offer(Steps.spend(x, 3 * t + o, 20)), o + 2);
        Due.is("a rival of one", x.offer(Steps.spend(x, 3 * t + 1, 19)), 4);
        Steps.poolIs("the others stay", x, 0, 1, 3, 4);
    }

    private static void lateByEachOutputOfARival() {
        for (int place = 0; place < 3; place++) {
            CoinNode x = Steps.nodeOfHeight(5);
            int t = Steps.spend(x, 120, 20, 20, 20);
            int child = Steps.spend(x, 3 * t, 10);
            int apart = Steps.spend(x, 121, 30, 30);
            for (int n : new int[] {t, child, apart}) x.offer(n);
            int ofRival = Steps.join(x, coins(120, 3 * t + 2, place), 1);
            int ofChild = Steps.join(x, coins(120, 3 * child, place), 1);
            int ofApart = Steps.join(x, coins(120, 3 * apart, place), 1);
            Due.is("an output of a rival at " + place, x.offer(ofRival), CoinNode.LATE);
            Due.is("an output of what follows one at " + place, x.offer(ofChild), CoinNode.LATE);
            Steps.poolIs("nothing has changed", x, t, child, apart);
            Due.is("an output of another at " + place, x.offer(ofApart), 2);
            Steps.poolIs("at last", x, apart, ofApart);
        }
    }

    // The contested coin, a coin of the pool at a place, and one that is free.
    private static int[] coins(int contested, int ofPool, int place) {
        int[] coins = {contested, 122, 123};
        if (place == 0) coins[2] = contested;
        coins[place] = ofPool;
        return coins;
    }

    private static void placesInThePool() {
        for (int count = 0; count <= 12; count++) {
            CoinNode x = row(count);
            for (int k : new int[] {LEAST, -1, 0, count - 1, count, 11, 12, 13, MOST}) {
                boolean there = k >= 0 && k < count;
                Due.is(count + " there: pool(" + k + ")", x.pool(k), there ? k : -1);
                Due.is(count + " there: fee(" + k + ")", x.fee(k), there ? 1 : 0);
            }
        }
    }

    private static void fullOnBothSides() {
        for (int count = 10; count <= 12; count++) {
            CoinNode x = row(count);
            int t = Steps.spend(x, 121, 64);
            Due.is("offered to " + count, x.offer(t), count < 12 ? count + 1 : CoinNode.FULL);
        }
    }

    private static void fullChangesNothing() {
        CoinNode x = row(12);
        int t = Steps.spend(x, 121, 1);
        Due.is("a thirteenth", x.offer(t), CoinNode.FULL);
        Due.is("a thirteenth again", x.offer(t), CoinNode.FULL);
        for (int k = 0; k < 12; k++) Due.is("pool(" + k + ")", x.pool(k), k);
        Due.is("pool(12)", x.pool(12), -1);
        x.forge(1, 0);
        Due.is("eight are left", x.offer(t), 9);
    }

    private static void fullAndRivals() {
        CoinNode x = row(12);
        int cheap = Steps.spend(x, 30, 52);
        Due.is("CHEAP, not FULL", x.offer(cheap), CoinNode.CHEAP);
        int late = Steps.spend(x, 122, 1);
        Due.is("LATE, not FULL", x.offer(late), CoinNode.LATE);
        Due.is("REFUSED, not FULL", x.offer(11), CoinNode.REFUSED);
        int better = Steps.spend(x, 30, 51);
        Due.is("its rival goes", x.offer(better), 12);
        for (int k = 0; k < 11; k++) Due.is("pool(" + k + ")", x.pool(k), k);
        Due.is("pool(11)", x.pool(11), better);
    }

    // A row of 10 in the pool, and so many ACTIVE transactions that come back.
    private static CoinNode withBack(int back) {
        CoinNode x = Steps.nodeOfHeight(4);
        for (int t = 0; t < back; t++) Steps.spend(x, 121 + t, 1);
        for (int t = 0; t < back; t++) x.put(t);
        Steps.mined(x, 4, 1);
        for (int t = back; t < back + 10; t++) {
            Steps.spend(x, t == back ? 120 : 3 * (t - 1), 63 - t + back);
            Due.is("the pool's row", x.offer(t), t - back + 1);
        }
        return x;
    }

    private static void anewWithTwelve() {
        for (int back = 0; back <= 2; back++) {
            CoinNode x = withBack(back);
            Steps.mined(x, 4, 9);
            int[] due = new int[10 + back];
            for (int k = 0; k < due.length; k++) due[k] = k;
            Steps.poolIs(back + " come back", x, due);
        }
    }

    private static void anewWithMoreThanTwelve() {
        CoinNode x = withBack(3);
        int aside = x.active(5);
        Steps.mined(x, 4, 9);
        Steps.poolIs("three come back", x, 0, 1, 2, 3, 4, 5, 6, 7, 8, 9, 10, 11);
        Due.is("the last was FULL, and is FULL", x.offer(12), CoinNode.FULL);
        x.mine(aside, 9, 0);
        x.deliver(7);
        Steps.poolIs("back again: the last does not return", x, 3, 4, 5, 6, 7, 8, 9, 10, 11);
        Due.is("unless it is offered", x.offer(12), 10);
    }

    // 28 transactions in seven blocks and 12 in the pool: all there can be.
    private static void anewWithFortyTransactions() {
        CoinNode x = Steps.nodeOfHeight(2);
        for (int t = 0; t < 40; t++) Steps.spend(x, t == 0 ? 120 : 3 * (t - 1), 63 - t);
        for (int b = 0; b < 7; b++) Steps.mined(x, 2 + b, 1, 4 * b, 4 * b + 1, 4 * b + 2, 4 * b + 3);
        Due.is("27 is ACTIVE", x.at(27), 9);
        for (int t = 28; t < 40; t++) Due.is("offer " + t, x.offer(t), t - 27);
        Steps.mined(x, 2, 9);
        Due.is("27 is not", x.at(27), -1);
        Steps.poolIs("the first twelve", x, 0, 1, 2, 3, 4, 5, 6, 7, 8, 9, 10, 11);
        x.forge(1, 0);
        Steps.poolIs("less four", x, 4, 5, 6, 7, 8, 9, 10, 11);
    }

    private static void anewInTheOrderOfBlocks() {
        CoinNode x = Steps.nodeOfHeight(6);
        for (int t = 0; t < 6; t++) Steps.spend(x, 120 + t, 1);
        int a = Steps.mined(x, 6, 1, 5, 1);
        int b = Steps.mined(x, a, 1, 3);
        Steps.mined(x, b, 1, 0);
        x.offer(4);
        x.offer(2);
        Steps.mined(x, 6, 9);
        Steps.poolIs("from the lowest block on, then the pool's", x, 5, 1, 3, 0, 4, 2);
        Steps.mined(x, b, 9);
        Steps.poolIs("those of the common blocks do not come", x, 0, 4, 2);
    }

    private static void anewWhatIsActiveThere() {
        CoinNode x = Steps.nodeOfHeight(5);
        for (int t = 0; t < 4; t++) Steps.spend(x, 120 + t, 1);
        Steps.mined(x, 5, 1, 0, 1);
        x.offer(2);
        x.offer(3);
        Steps.mined(x, 5, 9, 3, 1);
        Steps.poolIs("1 and 3 are ACTIVE", x, 0, 2);
        for (int t = 0; t < 4; t++) Due.is("at " + t, x.at(t), t == 1 || t == 3 ? 6 : -1);
    }

    private static void anewWhatIsSpentThere() {
        CoinNode x = Steps.nodeOfHeight(5);
        for (int t = 0; t < 4; t++) Steps.spend(x, 120 + t, 60);
        int child = Steps.spend(x, 0, 50);
        int rivals = Steps.join(x, new int[] {120, 122}, 1);
        Steps.mined(x, 5, 1, 0, 1);
        for (int t : new int[] {2, 3, child}) x.offer(t);
        Steps.mined(x, 5, 9, rivals);
        Steps.poolIs("coins 120 and 122 are spent there", x, 1, 3);
        Due.is("offered again", x.offer(0), CoinNode.LATE);
        Due.is("offered again", x.offer(2), CoinNode.LATE);
    }

    // A reward of height 1 is 4 blocks old behind the first tip, and 3 behind the second, which is lower.
    private static void anewWithAYoungerReward() {
        for (int v = 2; v <= 5; v++) {
            CoinNode x = new CoinNode();
            x.token(1, 10, v);
            x.deliver(x.mine(0, 1, 1));
            for (int h = 1; h < 4; h++) Steps.grow(x, h);
            int t = Steps.spend(x, 121, 1);
            Due.is("AGE " + v + " behind height 4", x.offer(t), v <= 4 ? 1 : CoinNode.LATE);
            Steps.mined(x, 2, 9);
            Due.is("the tip is lower", x.active(4), -1);
            if (v <= 3) Steps.poolIs("AGE " + v + " behind height 3", x, t);
            else Steps.poolIs("AGE " + v + " behind height 3", x);
        }
    }

    // An output is 3 blocks old behind the first tip, and 1 behind the second, where it stands higher.
    private static void anewWithAYoungerOutput() {
        for (int v = 0; v <= 4; v++) {
            CoinNode x = new CoinNode();
            x.token(1, 10, v);
            for (int h = 0; h < 2; h++) Steps.grow(x, h);
            x.input(120, 1, 1);
            x.output(60, 1);
            int t = x.make();
            int child = Steps.spend(x, 3 * t, 50);
            Steps.mined(x, 2, 1, t);
            for (int h = 3; h < 5; h++) Steps.grow(x, h);
            Due.is("AGE " + v + " of one of height 3", x.offer(child), v <= 3 ? 1 : CoinNode.LATE);
            int side = Steps.mined(x, 2, 1);
            Steps.mined(x, side, 9, t);
            Due.is("t stands in height 4", x.at(t), 4);
            if (v <= 1) Steps.poolIs("AGE " + v + " of one of height 4", x, child);
            else Steps.poolIs("AGE " + v + " of one of height 4", x);
        }
    }

    // The output of one that comes back is as old as the block behind the tip.
    private static void anewWithAnOutputOfThePool() {
        for (int v = 0; v <= 2; v++) {
            CoinNode x = new CoinNode();
            x.token(1, 10, v);
            for (int h = 0; h < 2; h++) Steps.grow(x, h);
            x.input(120, 1, 1);
            x.output(60, 1);
            int t = x.make();
            int child = Steps.spend(x, 3 * t, 50);
            Steps.mined(x, 2, 1, t);
            Due.is("AGE " + v + " of one of height 3", x.offer(child), v <= 1 ? 1 : CoinNode.LATE);
            Steps.mined(x, 2, 9);
            if (v == 0) Steps.poolIs("AGE " + v + " of one of the pool", x, t, child);
            else Steps.poolIs("AGE " + v + " of one of the pool", x, t);
        }
    }

    private static void anewWithoutTheParent() {
        CoinNode x = Steps.nodeOfHeight(5);
        int t = Steps.spend(x, 124, 20, 10);
        int child = Steps.join(x, new int[] {120, 3 * t}, 50);
        int grandchild = Steps.join(x, new int[] {121, 3 * child}, 50);
        int apart = Steps.spend(x, 122, 1);
        for (int n : new int[] {t, child, grandchild, apart}) x.offer(n);
        Steps.mined(x, 3, 9);
        Steps.poolIs("block 4 has gone, and all that follows its reward", x, apart);
        Due.is("coin 120 is free", x.offer(Steps.spend(x, 120, 1)), 2);
    }

    // A script that fits in the block of height 4 alone shows whether the pool was made anew.
    private static void anewOnlyWithANewTip() {
        CoinNode x = new CoinNode();
        x.token(1, 11, 0);
        x.token(1, 0, 4);
        x.token(1, 6, 0);
        x.deliver(x.mine(0, 1, 1));
        Steps.grow(x, 1);
        Steps.grow(x, 2);
        int t = Steps.spend(x, 121, 60);
        Due.is("offer", x.offer(t), 1);
        Steps.mined(x, 1, 2);
        Steps.poolIs("the same work", x, t);
        x.mine(3, 1, 0);
        Steps.poolIs("a block that is not delivered", x, t);
        x.mine(5, 1, 0);
        x.deliver(6);
        Steps.poolIs("a block that waits", x, t);
        Steps.mined(x, 2, 2);
        Steps.poolIs("a new tip of the same height", x, t);
        x.deliver(5);
        Steps.poolIs("a new tip of height 5", x);
        Due.is("6 is ACTIVE", x.active(5), 6);
    }

    private static void forgeOfSome() {
        for (int count = 0; count <= 6; count++) {
            CoinNode x = row(count);
            int b = x.forge(1, 0);
            int taken = count < 4 ? count : 4;
            for (int t = 0; t < count; t++) Due.is(count + " there: at " + t, x.at(t), t < taken ? 3 : -1);
            Due.is(count + " there: 64 and the fees", x.block(b, 3), 64 + taken);
            int[] left = new int[count - taken];
            for (int k = 0; k < left.length; k++) left[k] = taken + k;
            Steps.poolIs(count + " there", x, left);
        }
    }

    // Five without each other's outputs: the one of the least fee is left, of several such the last.
    private static void forgeOnBothSidesOfAFee() {
        int[][] fees = {{5, 5, 5, 5, 5}, {5, 5, 4, 5, 5}, {4, 5, 5, 5, 5}, {5, 5, 5, 5, 6}, {4, 5, 4, 5, 4}, {0, 0, 0, 0, 1}};
        int[] due = {4, 2, 0, 3, 4, 3};
        for (int i = 0; i < fees.length; i++) {
            CoinNode x = Steps.nodeOfHeight(6);
            for (int t = 0; t < 5; t++) {
                Steps.spend(x, 120 + t, (t < 4 ? 64 : 32) - fees[i][t]);
                Due.is("offer", x.offer(t), t + 1);
            }
            x.forge(1, 0);
            Steps.poolIs("fees " + i, x, due[i]);
        }
    }

    private static void forgeAfterCheap() {
        CoinNode x = Steps.nodeOfHeight(3);
        int t = Steps.spend(x, 120, 60);
        int cheap = Steps.spend(x, 120, 61);
        x.offer(t);
        Due.is("CHEAP", x.offer(cheap), CoinNode.CHEAP);
        int b = x.forge(1, 0);
        Due.is("32 and the fee 4", x.block(b, 3), 36);
        Due.is("t", x.at(t), 4);
        Steps.poolIs("none is left", x);
        Due.is("its rival", x.offer(cheap), CoinNode.LATE);
    }

    private static void forgeRefused() {
        for (int work : new int[] {LEAST, -1, 0, 1, 9, 10, MOST}) {
            for (int script : new int[] {LEAST, -1, 0, 7, 8, MOST}) {
                CoinNode x = row(2);
                boolean good = work >= 1 && work <= 9 && script >= 0 && script <= 7;
                String call = "forge(" + work + ", " + script + ")";
                Due.is(call, x.forge(work, script), good ? 3 : CoinNode.BAD);
                Due.is(call + ": its work", x.block(3, 2), good ? 3 + work : CoinNode.BAD);
                if (good) Steps.poolIs(call, x);
                else Steps.poolIs(call, x, 0, 1);
            }
        }
        CoinNode y = Steps.nodeOfHeight(30);
        Steps.spend(y, 120, 1);
        Steps.spend(y, 121, 2);
        y.offer(0);
        Due.is("block 31", y.forge(1, 0), 31);
        Due.is("offer", y.offer(1), 1);
        Due.is("a 33rd", y.forge(1, 1), CoinNode.FULL);
        Due.is("BAD before FULL", y.forge(10, 1), CoinNode.BAD);
        Due.is("BAD before FULL", y.forge(1, 8), CoinNode.BAD);
        Steps.poolIs("the pool stays", y, 1);
        Due.is("its script is free", y.token(1, 0, 1), 1);
        Due.is("the tip stays", y.active(31), 31);
    }

    private static void forgeLeavesWhatWasPut() {
        CoinNode x = Steps.nodeOfHeight(6);
        for (int t = 0; t < 5; t++) Steps.spend(x, 120 + t, 1);
        for (int t = 0; t < 4; t++) x.put(t);
        for (int t = 1; t < 5; t++) x.offer(t);
        int b = x.forge(1, 0);
        for (int t = 0; t < 5; t++) Due.is("at " + t, x.at(t), t == 0 ? -1 : 7);
        for (int t = 0; t < 4; t++) Due.is("put " + t + " still", x.put(t), CoinNode.BAD);
        Due.is("and no more than four", x.put(4), CoinNode.FULL);
        int c = x.mine(6, 2, 0);
        x.deliver(c);
        for (int t = 0; t < 5; t++) Due.is("at " + t, x.at(t), t == 4 ? -1 : 7);
        Due.is("the forged one is aside", x.block(b, 0), 3);
        Steps.poolIs("what it alone had is in the pool", x, 4);
    }
}
