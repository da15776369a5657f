// A node of a coin network. The words in capitals are those of the document, DOC.md.
public final class CoinNode {
    public static final int BAD = -1, REFUSED = -2, LATE = -3, CHEAP = -4, FULL = -5;

    private static final int SCRIPTS = 8, TOKENS = 8, STACK = 6;
    private static final int TRANSACTIONS = 40, PARTS = 3, MOST_AMOUNT = 1000;
    private static final int BLOCKS = 32, BLOCK_TRANSACTIONS = 4, MOST_WORK = 9;
    private static final int POOL = 12;
    private static final int FIRST_REWARD = TRANSACTIONS * PARTS, COINS = FIRST_REWARD + BLOCKS;
    private static final int REWARD = 64, HALVING = 4, REWARD_DEPTH = 2;
    private static final int HASH_FACTOR = 31, HASH_TERM = 7, HASH_DIVISOR = 1009;
    // The draft stands in the place of the next transaction, so there is one place more.
    private static final int PLACES = TRANSACTIONS + 1, PART_PLACES = PLACES * PARTS;
    private static final int TOKEN_PLACES = SCRIPTS * TOKENS, BLOCK_PLACES = BLOCKS * BLOCK_TRANSACTIONS;
    private static final int QUEUE = TRANSACTIONS + POOL;

    private static final int PUSH = 0, DUP = 1, DROP = 2, SWAP = 3, ADD = 4, MULTIPLY = 5, EQUAL = 6;
    private static final int LESS = 7, VERIFY = 8, HASH = 9, AGE = 10, HEIGHT = 11, SKIP = 12;

    // The answers of block(b, 0). An ACTIVE block is kept as VALID: the tip says what is ACTIVE.
    private static final int MADE = 0, WAITING = 1, INVALID = 2, VALID = 3, ACTIVE = 4;

    private final int[] tokenCount = new int[SCRIPTS];
    private final int[] tokenOp = new int[TOKEN_PLACES];
    private final int[] tokenValue = new int[TOKEN_PLACES];
    private final boolean[] scriptInUse = new boolean[SCRIPTS];
    private final int[] stack = new int[STACK];
    private int stackSize = 0;

    private int transactions = 0;
    private final int[] inputCount = new int[PLACES];
    private final int[] inputCoin = new int[PART_PLACES];
    private final int[] inputA = new int[PART_PLACES];
    private final int[] inputB = new int[PART_PLACES];
    private final int[] outputCount = new int[PLACES];
    private final int[] outputAmount = new int[PART_PLACES];
    private final int[] outputScript = new int[PART_PLACES];
    private final int[] feeOf = new int[TRANSACTIONS];

    private int putCount = 0;
    private final int[] putRow = new int[BLOCK_TRANSACTIONS];

    private int blocks = 0;
    private final int[] parentOf = new int[BLOCKS];
    private final int[] heightOf = new int[BLOCKS];
    private final int[] chainWork = new int[BLOCKS];
    private final int[] blockState = new int[BLOCKS];
    private final int[] rewardAmount = new int[BLOCKS];
    private final int[] rewardScript = new int[BLOCKS];
    private final int[] blockSize = new int[BLOCKS];
    private final int[] blockTransaction = new int[BLOCK_PLACES];

    // What is in the chain that was laid out last: between calls this is the tip's.
    private final int[] laidBlock = new int[BLOCKS];
    private final int[] coinHeight = new int[COINS];
    private final boolean[] coinSpent = new boolean[COINS];
    private final int[] transactionHeight = new int[TRANSACTIONS];
    private int tip = 0;

    private int poolCount = 0;
    private final int[] poolRow = new int[POOL];
    private final boolean[] marked = new boolean[POOL];
    private int queueCount = 0;
    private final int[] queue = new int[QUEUE];

    public CoinNode() {
        addBlock(0, 0, 1, 0);
        blockState[0] = VALID;
        layChain(0);
    }

    public int token(int script, int op, int v) {
        if (!isScript(script) || op < PUSH || op > SKIP || scriptInUse[script]) return BAD;
        if (op == SKIP && (v < 0 || v > TOKENS)) return BAD;
        if (tokenCount[script] == TOKENS) return FULL;
        int place = script * TOKENS + tokenCount[script];
        tokenOp[place] = op;
        tokenValue[place] = v;
        tokenCount[script]++;
        return tokenCount[script];
    }

    public int input(int coin, int a, int b) {
        if (!isCoin(coin) || hasInput(transactions, coin)) return BAD;
        if (inputCount[transactions] == PARTS) return FULL;
        int place = transactions * PARTS + inputCount[transactions];
        inputCoin[place] = coin;
        inputA[place] = a;
        inputB[place] = b;
        inputCount[transactions]++;
        return inputCount[transactions];
    }

    public int output(int amount, int script) {
        if (amount < 1 || amount > MOST_AMOUNT || !isScript(script)) return BAD;
        if (outputCount[transactions] == PARTS) return FULL;
        int place = transactions * PARTS + outputCount[transactions];
        outputAmount[place] = amount;
        outputScript[place] = script;
        outputCount[transactions]++;
        return outputCount[transactions];
    }

    public int make() {
        int t = transactions;
        if (inputCount[t] == 0 || outputCount[t] == 0) return BAD;
        if (t == TRANSACTIONS) return FULL;
        feeOf[t] = feeOfDraft();
        for (int o = 0; o < outputCount[t]; o++) {
            int script = outputScript[t * PARTS + o];
            scriptInUse[script] = true;
        }
        transactions++;
        return t;
    }

    public int put(int t) {
        if (!isTransaction(t)) return BAD;
        for (int i = 0; i < putCount; i++) {
            if (putRow[i] == t) return BAD;
        }
        if (putCount == BLOCK_TRANSACTIONS) return FULL;
        putRow[putCount] = t;
        putCount++;
        return putCount;
    }

    public int mine(int parent, int work, int script) {
        if (!isBlock(parent) || !isWork(work) || !isScript(script)) return BAD;
        if (blocks == BLOCKS) return FULL;
        int b = addBlock(parent, heightOf[parent] + 1, chainWork[parent] + work, script);
        for (int i = 0; i < putCount; i++) addToBlock(b, putRow[i]);
        putCount = 0;
        return b;
    }

    public int deliver(int block) {
        if (!isBlock(block) || blockState[block] != MADE) return BAD;
        blockState[block] = WAITING;
        int count = 0;
        // A parent has a lower number than its children: one way up meets all, the least first.
        for (int b = block; b < blocks; b++) {
            if (blockState[b] != WAITING || blockState[parentOf[b]] < INVALID) continue;
            arrive(b);
            count++;
        }
        return count;
    }

    public int offer(int t) {
        return admit(t, true);
    }

    public int forge(int work, int script) {
        if (!isWork(work) || !isScript(script)) return BAD;
        if (blocks == BLOCKS) return FULL;
        int b = addBlock(tip, heightOf[tip] + 1, chainWork[tip] + work, script);
        for (int k = 0; k < POOL; k++) marked[k] = false;
        for (int i = 0; i < BLOCK_TRANSACTIONS; i++) {
            int best = bestUnmarked();
            if (best < 0) break;
            marked[best] = true;
            addToBlock(b, poolRow[best]);
        }
        arrive(b);
        return b;
    }

    public int active(int height) {
        if (height < 0 || height > heightOf[tip]) return -1;
        return laidBlock[height];
    }

    public int block(int b, int what) {
        if (!isBlock(b)) return BAD;
        switch (what) {
            case 0:
                return coinHeight[FIRST_REWARD + b] >= 0 ? ACTIVE : blockState[b];
            case 1:
                return heightOf[b];
            case 2:
                return chainWork[b];
            case 3:
                return blockState[b] == VALID ? rewardAmount[b] : 0;
            default:
                return BAD;
        }
    }

    public int coin(int c) {
        if (c < 0 || c >= COINS || coinHeight[c] < 0) return 0;
        return coinSpent[c] ? 1 : 2;
    }

    public int at(int t) {
        return isTransaction(t) ? transactionHeight[t] : -1;
    }

    public int pool(int k) {
        return k >= 0 && k < poolCount ? poolRow[k] : -1;
    }

    public int fee(int k) {
        return k >= 0 && k < poolCount ? feeOf[poolRow[k]] : 0;
    }

    public long balance(int script) {
        long sum = 0;
        for (int c = 0; c < COINS; c++) {
            if (coinHeight[c] >= 0 && !coinSpent[c] && scriptOf(c) == script) sum += amountOf(c);
        }
        return sum;
    }

    private boolean isScript(int script) {
        return script >= 0 && script < SCRIPTS;
    }

    private boolean isWork(int work) {
        return work >= 1 && work <= MOST_WORK;
    }

    private boolean isTransaction(int t) {
        return t >= 0 && t < transactions;
    }

    private boolean isBlock(int b) {
        return b >= 0 && b < blocks;
    }

    private boolean isCoin(int c) {
        if (c < 0) return false;
        if (c >= FIRST_REWARD) return c - FIRST_REWARD < blocks;
        return c / PARTS < transactions && c % PARTS < outputCount[c / PARTS];
    }

    private int amountOf(int c) {
        return c < FIRST_REWARD ? outputAmount[c] : rewardAmount[c - FIRST_REWARD];
    }

    private int scriptOf(int c) {
        return c < FIRST_REWARD ? outputScript[c] : rewardScript[c - FIRST_REWARD];
    }

    private boolean hasInput(int t, int c) {
        for (int i = 0; i < inputCount[t]; i++) {
            if (inputCoin[t * PARTS + i] == c) return true;
        }
        return false;
    }

    private boolean hasOutputOf(int t, int source) {
        for (int i = 0; i < inputCount[t]; i++) {
            int c = inputCoin[t * PARTS + i];
            if (c < FIRST_REWARD && c / PARTS == source) return true;
        }
        return false;
    }

    private boolean sharesInput(int t, int other) {
        for (int i = 0; i < inputCount[t]; i++) {
            if (hasInput(other, inputCoin[t * PARTS + i])) return true;
        }
        return false;
    }

    // All its coins are there before the draft is made, so the FEE never changes afterwards.
    // In blocks that can't be VALID rewards may grow until this wraps; no answer shows those.
    private int feeOfDraft() {
        int sum = 0;
        int first = transactions * PARTS;
        for (int i = 0; i < inputCount[transactions]; i++) sum += amountOf(inputCoin[first + i]);
        for (int o = 0; o < outputCount[transactions]; o++) sum -= outputAmount[first + o];
        return sum;
    }

    private int addBlock(int parent, int height, int work, int script) {
        int b = blocks;
        parentOf[b] = parent;
        heightOf[b] = height;
        chainWork[b] = work;
        rewardAmount[b] = REWARD >> (height / HALVING);
        rewardScript[b] = script;
        scriptInUse[script] = true;
        blocks++;
        return b;
    }

    private void addToBlock(int b, int t) {
        blockTransaction[b * BLOCK_TRANSACTIONS + blockSize[b]] = t;
        blockSize[b]++;
        rewardAmount[b] += feeOf[t];
    }

    private void arrive(int b) {
        boolean valid = isValidOnParent(b);
        blockState[b] = valid ? VALID : INVALID;
        layChain(tip);
        // Of chains with the same work the one that arrived first stays.
        if (!valid || chainWork[b] <= chainWork[tip]) return;
        queueForPool();
        tip = b;
        layChain(b);
        poolCount = 0;
        for (int i = 0; i < queueCount; i++) admit(queue[i], false);
    }

    private boolean isValidOnParent(int b) {
        if (blockState[parentOf[b]] != VALID) return false;
        layChain(parentOf[b]);
        for (int i = 0; i < blockSize[b]; i++) {
            int t = blockTransaction[b * BLOCK_TRANSACTIONS + i];
            if (transactionHeight[t] >= 0 || !maySpend(t, heightOf[b], false)) return false;
            layTransaction(t, heightOf[b]);
        }
        return true;
    }

    private void layChain(int last) {
        for (int c = 0; c < COINS; c++) {
            coinHeight[c] = -1;
            coinSpent[c] = false;
        }
        for (int t = 0; t < TRANSACTIONS; t++) transactionHeight[t] = -1;
        int b = last;
        for (int h = heightOf[last]; h >= 0; h--) {
            laidBlock[h] = b;
            b = parentOf[b];
        }
        for (int h = 0; h <= heightOf[last]; h++) layBlock(laidBlock[h]);
    }

    private void layBlock(int b) {
        for (int i = 0; i < blockSize[b]; i++) {
            layTransaction(blockTransaction[b * BLOCK_TRANSACTIONS + i], heightOf[b]);
        }
        coinHeight[FIRST_REWARD + b] = heightOf[b];
    }

    private void layTransaction(int t, int height) {
        transactionHeight[t] = height;
        for (int i = 0; i < inputCount[t]; i++) {
            int c = inputCoin[t * PARTS + i];
            coinSpent[c] = true;
        }
        for (int o = 0; o < outputCount[t]; o++) coinHeight[t * PARTS + o] = height;
    }

    private boolean maySpend(int t, int height, boolean fromPool) {
        for (int i = t * PARTS; i < t * PARTS + inputCount[t]; i++) {
            int c = inputCoin[i];
            int from = coinHeight[c];
            // A reward's number divided by PARTS is above every transaction's: no pool has it.
            if (fromPool && isInPool(c / PARTS)) from = height;
            if (from < 0 || coinSpent[c]) return false;
            if (c >= FIRST_REWARD && height - from < REWARD_DEPTH) return false;
            int script = scriptOf(c);
            if (!fits(script, inputA[i], inputB[i], height, from)) return false;
        }
        return feeOf[t] >= 0;
    }

    private boolean isInPool(int t) {
        for (int k = 0; k < poolCount; k++) {
            if (poolRow[k] == t) return true;
        }
        return false;
    }

    private int admit(int t, boolean mayReplace) {
        if (!isTransaction(t) || transactionHeight[t] >= 0 || isInPool(t)) return REFUSED;
        if (!maySpend(t, heightOf[tip] + 1, true)) return LATE;
        if (markRivals(t)) {
            if (hasMarkedOutput(t)) return LATE;
            if (!mayReplace || feeOf[t] <= markedFees()) return CHEAP;
            removeMarked();
        }
        if (poolCount == POOL) return FULL;
        poolRow[poolCount] = t;
        poolCount++;
        return poolCount;
    }

    // In the pool's row a transaction stands behind those whose outputs it has: one pass finds all.
    private boolean markRivals(int t) {
        for (int k = 0; k < POOL; k++) marked[k] = false;
        boolean any = false;
        for (int k = 0; k < poolCount; k++) {
            marked[k] = sharesInput(t, poolRow[k]) || hasMarkedOutput(poolRow[k]);
            any = any || marked[k];
        }
        return any;
    }

    private boolean hasMarkedOutput(int t) {
        for (int k = 0; k < poolCount; k++) {
            if (marked[k] && hasOutputOf(t, poolRow[k])) return true;
        }
        return false;
    }

    private int markedFees() {
        int sum = 0;
        for (int k = 0; k < poolCount; k++) {
            if (marked[k]) sum += feeOf[poolRow[k]];
        }
        return sum;
    }

    private void removeMarked() {
        int kept = 0;
        for (int k = 0; k < poolCount; k++) {
            if (marked[k]) continue;
            poolRow[kept] = poolRow[k];
            kept++;
        }
        poolCount = kept;
    }

    // Those that stay ACTIVE are queued as well: admit refuses them.
    private void queueForPool() {
        queueCount = 0;
        for (int h = 0; h <= heightOf[tip]; h++) {
            int b = laidBlock[h];
            for (int i = 0; i < blockSize[b]; i++) {
                queue[queueCount] = blockTransaction[b * BLOCK_TRANSACTIONS + i];
                queueCount++;
            }
        }
        for (int k = 0; k < poolCount; k++) {
            queue[queueCount] = poolRow[k];
            queueCount++;
        }
    }

    private int bestUnmarked() {
        int best = -1;
        for (int k = 0; k < poolCount; k++) {
            if (marked[k] || waitsForUnmarked(k)) continue;
            if (best < 0 || feeOf[poolRow[k]] > feeOf[poolRow[best]]) best = k;
        }
        return best;
    }

    private boolean waitsForUnmarked(int k) {
        for (int j = 0; j < poolCount; j++) {
            if (!marked[j] && hasOutputOf(poolRow[k], poolRow[j])) return true;
        }
        return false;
    }

    private boolean fits(int script, int a, int b, int height, int from) {
        stack[0] = a;
        stack[1] = b;
        stackSize = 2;
        int next = 0;
        for (int i = 0; i < tokenCount[script]; i++) {
            if (i < next) continue;
            int op = tokenOp[script * TOKENS + i];
            int v = tokenValue[script * TOKENS + i];
            if (stackSize < intsNeeded(op) || stackSize + intsAdded(op) > STACK) return false;
            if (op == AGE && height - from < v) return false;
            if (op == VERIFY && stack[stackSize - 1] == 0) return false;
            if (op == SKIP && stack[stackSize - 1] == 0) next = i + 1 + v;
            if (op >= ADD && op <= LESS) joinTop(op);
            else changeTop(op, op == HEIGHT ? height : v);
        }
        return stackSize > 0 && stack[stackSize - 1] != 0;
    }

    private int intsNeeded(int op) {
        if (op == PUSH || op == AGE || op == HEIGHT) return 0;
        return op >= SWAP && op <= LESS ? 2 : 1;
    }

    private int intsAdded(int op) {
        return op == PUSH || op == DUP || op == HEIGHT ? 1 : 0;
    }

    private void joinTop(int op) {
        int top = stack[stackSize - 1];
        int lower = stack[stackSize - 2];
        int one = 0;
        if (op == ADD) one = lower + top;
        else if (op == MULTIPLY) one = lower * top;
        else if (op == EQUAL) one = lower == top ? 1 : 0;
        else one = lower < top ? 1 : 0;
        stackSize--;
        stack[stackSize - 1] = one;
    }

    private void changeTop(int op, int pushed) {
        int top = stackSize - 1;
        switch (op) {
            case PUSH:
            case HEIGHT:
                stack[stackSize] = pushed;
                stackSize++;
                break;
            case DUP:
                stack[stackSize] = stack[top];
                stackSize++;
                break;
            case SWAP:
                int x = stack[top];
                stack[top] = stack[top - 1];
                stack[top - 1] = x;
                break;
            case HASH:
                long rest = ((long) stack[top] * HASH_FACTOR + HASH_TERM) % HASH_DIVISOR;
                stack[top] = (int) (rest < 0 ? rest + HASH_DIVISOR : rest);
                break;
            case DROP:
            case VERIFY:
            case SKIP:
                stackSize--;
                break;
            default:
                break;
        }
    }
}
