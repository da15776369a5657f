import java.util.ArrayList;
import java.util.HashMap;
import java.util.HashSet;
import java.util.List;
import java.util.Map;
import java.util.Random;
import java.util.Set;

// Long runs of chosen calls, each answer compared with that of a model that is written down from the
// document in another way: it keeps no state of the chain, but goes through it anew for each question.
public final class ModelTest {
    private static final int RUNS = 1500, CALLS = 512;

    private static final class Tx {
        int number;
        final List<int[]> inputs = new ArrayList<>();
        final List<int[]> outputs = new ArrayList<>();

        boolean hasCoin(int coin) {
            return inputs.stream().anyMatch(i -> i[0] == coin);
        }

        boolean hasOutputOf(Tx other) {
            return inputs.stream().anyMatch(i -> i[0] < 120 && i[0] / 3 == other.number);
        }
    }

    private static final class Block {
        int number, work, script;
        Block parent;
        List<Tx> txs = new ArrayList<>();
        boolean delivered;

        int height() {
            return parent == null ? 0 : parent.height() + 1;
        }

        int chainWork() {
            return parent == null ? work : work + parent.chainWork();
        }
    }

    // What a chain holds; amounts are found on the way, as the chain has them.
    private static final class Ledger {
        boolean valid = true;
        final List<Block> blocks = new ArrayList<>();
        final Map<Integer, Integer> coinHeight = new HashMap<>();
        final Map<Integer, Long> amount = new HashMap<>();
        final Map<Integer, Integer> script = new HashMap<>();
        final Set<Integer> spent = new HashSet<>();
        final Map<Tx, Integer> txHeight = new HashMap<>();
    }

    private static final class Model {
        final List<List<int[]>> scripts = new ArrayList<>();
        final List<Tx> txs = new ArrayList<>();
        final List<Block> blocks = new ArrayList<>();
        final List<Block> arrived = new ArrayList<>();
        final List<Tx> put = new ArrayList<>();
        final Map<Block, Ledger> ledgers = new HashMap<>();
        List<Tx> pool = new ArrayList<>();
        Tx draft = new Tx();

        Model() {
            for (int s = 0; s < 8; s++) scripts.add(new ArrayList<>());
            Block zero = new Block();
            zero.work = 1;
            zero.delivered = true;
            blocks.add(zero);
            arrived.add(zero);
        }

        boolean runs(int script, int a, int b, int h, int g) {
            List<Integer> stack = new ArrayList<>(List.of(a, b));
            int skip = 0;
            for (int[] token : scripts.get(script)) {
                if (skip > 0) {
                    skip--;
                    continue;
                }
                int op = token[0];
                int goes = new int[] {0, 1, 1, 2, 2, 2, 2, 2, 1, 1, 0, 0, 1}[op];
                if (stack.size() < goes) return false;
                int n = stack.size();
                int x = goes > 0 ? stack.get(n - goes) : 0;
                int y = goes > 1 ? stack.get(n - 1) : 0;
                for (int i = 0; i < goes; i++) stack.remove(stack.size() - 1);
                switch (op) {
                    case 0 -> stack.add(token[1]);
                    case 1 -> stack.addAll(List.of(x, x));
                    case 3 -> stack.addAll(List.of(y, x));
                    case 4 -> stack.add(x + y);
                    case 5 -> stack.add(x * y);
                    case 6 -> stack.add(x == y ? 1 : 0);
                    case 7 -> stack.add(x < y ? 1 : 0);
                    case 9 -> stack.add((int) Math.floorMod(31L * x + 7L, 1009L));
                    case 11 -> stack.add(h);
                    default -> { }
                }
                if (op == 8 && x == 0 || op == 10 && h - g < token[1] || stack.size() > 6) return false;
                if (op == 12 && x == 0) skip = token[1];
            }
            return !stack.isEmpty() && stack.get(stack.size() - 1) != 0;
        }

        Ledger ledger(Block last) {
            Ledger known = ledgers.get(last);
            if (known == null) ledgers.put(last, known = replay(last));
            return known;
        }

        Ledger replay(Block last) {
            Ledger l = new Ledger();
            for (Block b = last; b != null; b = b.parent) l.blocks.add(0, b);
            for (Block b : l.blocks) {
                int h = b.height();
                long reward = 64;
                for (int i = 0; i < h / 4; i++) reward /= 2;
                for (Tx t : b.txs) {
                    if (!standsIn(l, t, h)) {
                        l.valid = false;
                        return l;
                    }
                    reward += fee(l, t);
                    t.inputs.forEach(i -> l.spent.add(i[0]));
                    addOutputs(l, t, h);
                    l.txHeight.put(t, h);
                }
                l.coinHeight.put(120 + b.number, h);
                l.amount.put(120 + b.number, reward);
                l.script.put(120 + b.number, b.script);
            }
            return l;
        }

        boolean standsIn(Ledger l, Tx t, int h) {
            if (l.txHeight.containsKey(t)) return false;
            for (int[] i : t.inputs) {
                if (!l.coinHeight.containsKey(i[0]) || l.spent.contains(i[0])) return false;
                int g = l.coinHeight.get(i[0]);
                if (i[0] >= 120 && g > h - 2) return false;
                if (!runs(l.script.get(i[0]), i[1], i[2], h, g)) return false;
            }
            return fee(l, t) >= 0;
        }

        void addOutputs(Ledger l, Tx t, int h) {
            for (int o = 0; o < t.outputs.size(); o++) {
                int c = 3 * t.number + o;
                l.coinHeight.put(c, h);
                l.amount.put(c, (long) t.outputs.get(o)[0]);
                l.script.put(c, t.outputs.get(o)[1]);
            }
        }

        long fee(Ledger l, Tx t) {
            return t.inputs.stream().mapToLong(i -> l.amount.get(i[0])).sum()
                - t.outputs.stream().mapToLong(o -> o[0]).sum();
        }

        Block tip() {
            Block best = null;
            for (Block b : arrived) {
                if (ledger(b).valid && (best == null || b.chainWork() > best.chainWork())) best = b;
            }
            return best;
        }

        // The tip's ledger with the pool's outputs, as if they stood in the block behind it.
        Ledger withPool() {
            Ledger l = replay(tip());
            for (Tx t : pool) addOutputs(l, t, tip().height() + 1);
            return l;
        }

        int offer(int number, boolean anew) {
            if (number < 0 || number >= txs.size()) return CoinNode.REFUSED;
            Tx t = txs.get(number);
            if (ledger(tip()).txHeight.containsKey(t) || pool.contains(t)) return CoinNode.REFUSED;
            Ledger l = withPool();
            if (!standsIn(l, t, tip().height() + 1)) return CoinNode.LATE;
            Set<Tx> rivals = new HashSet<>();
            for (int round = 0; round < 13; round++) {
                for (Tx p : pool) {
                    if (t.inputs.stream().anyMatch(i -> p.hasCoin(i[0]))) rivals.add(p);
                    if (rivals.stream().anyMatch(p::hasOutputOf)) rivals.add(p);
                }
            }
            if (!rivals.isEmpty()) {
                if (rivals.stream().anyMatch(t::hasOutputOf)) return CoinNode.LATE;
                if (anew || fee(l, t) <= rivals.stream().mapToLong(r -> fee(l, r)).sum()) return CoinNode.CHEAP;
                pool.removeAll(rivals);
            }
            if (pool.size() == 12) return CoinNode.FULL;
            pool.add(t);
            return pool.size();
        }

        int deliver(int number) {
            if (number < 0 || number >= blocks.size() || blocks.get(number).delivered) return CoinNode.BAD;
            blocks.get(number).delivered = true;
            int count = 0;
            boolean more = true;
            while (more) {
                more = false;
                for (Block b : blocks) {
                    if (!b.delivered || arrived.contains(b) || !arrived.contains(b.parent)) continue;
                    arrive(b);
                    count++;
                    more = true;
                    break;
                }
            }
            return count;
        }

        void arrive(Block b) {
            Block before = tip();
            arrived.add(b);
            if (tip() == before) return;
            List<Tx> anew = new ArrayList<>();
            for (Block old : ledger(before).blocks) {
                for (Tx t : old.txs) {
                    if (!ledger(tip()).txHeight.containsKey(t)) anew.add(t);
                }
            }
            anew.addAll(pool);
            pool = new ArrayList<>();
            anew.forEach(t -> offer(t.number, true));
        }

        int token(int script, int op, int v) {
            if (script < 0 || script > 7 || op < 0 || op > 12 || op == 12 && (v < 0 || v > 8)) return CoinNode.BAD;
            boolean had = blocks.stream().anyMatch(b -> b.script == script)
                || txs.stream().anyMatch(t -> t.outputs.stream().anyMatch(o -> o[1] == script));
            if (had) return CoinNode.BAD;
            if (scripts.get(script).size() == 8) return CoinNode.FULL;
            scripts.get(script).add(new int[] {op, v});
            return scripts.get(script).size();
        }

        int input(int coin, int a, int b) {
            boolean there = coin >= 120 && coin - 120 < blocks.size()
                || coin >= 0 && coin / 3 < txs.size() && coin % 3 < txs.get(coin / 3).outputs.size();
            if (!there || draft.hasCoin(coin)) return CoinNode.BAD;
            if (draft.inputs.size() == 3) return CoinNode.FULL;
            draft.inputs.add(new int[] {coin, a, b});
            return draft.inputs.size();
        }

        int output(int amount, int script) {
            if (amount < 1 || amount > 1000 || script < 0 || script > 7) return CoinNode.BAD;
            if (draft.outputs.size() == 3) return CoinNode.FULL;
            draft.outputs.add(new int[] {amount, script});
            return draft.outputs.size();
        }

        int make() {
            if (draft.inputs.isEmpty() || draft.outputs.isEmpty()) return CoinNode.BAD;
            if (txs.size() == 40) return CoinNode.FULL;
            draft.number = txs.size();
            txs.add(draft);
            draft = new Tx();
            return txs.size() - 1;
        }

        int put(int t) {
            if (t < 0 || t >= txs.size() || put.contains(txs.get(t))) return CoinNode.BAD;
            if (put.size() == 4) return CoinNode.FULL;
            put.add(txs.get(t));
            return put.size();
        }

        int mine(int parent, int work, int script, List<Tx> chosen) {
            if (parent < 0 || parent >= blocks.size() || work < 1 || work > 9) return CoinNode.BAD;
            if (script < 0 || script > 7) return CoinNode.BAD;
            if (blocks.size() == 32) return CoinNode.FULL;
            Block b = new Block();
            b.number = blocks.size();
            b.parent = blocks.get(parent);
            b.work = work;
            b.script = script;
            b.txs.addAll(chosen);
            blocks.add(b);
            return b.number;
        }

        int mine(int parent, int work, int script) {
            int b = mine(parent, work, script, put);
            if (b >= 0) put.clear();
            return b;
        }

        int forge(int work, int script) {
            Ledger l = withPool();
            List<Tx> left = new ArrayList<>(pool);
            List<Tx> chosen = new ArrayList<>();
            while (chosen.size() < 4) {
                Tx best = null;
                for (Tx t : left) {
                    if (left.stream().anyMatch(t::hasOutputOf)) continue;
                    if (best == null || fee(l, t) > fee(l, best)) best = t;
                }
                if (best == null) break;
                chosen.add(best);
                left.remove(best);
            }
            int b = mine(tip().number, work, script, chosen);
            if (b >= 0) deliver(b);
            return b;
        }

        int active(int height) {
            List<Block> chain = ledger(tip()).blocks;
            return height < 0 || height >= chain.size() ? -1 : chain.get(height).number;
        }

        long block(int number, int what) {
            if (number < 0 || number >= blocks.size() || what < 0 || what > 3) return CoinNode.BAD;
            Block b = blocks.get(number);
            boolean valid = arrived.contains(b) && ledger(b).valid;
            if (what == 1) return b.height();
            if (what == 2) return b.chainWork();
            if (what == 3) return valid ? ledger(b).amount.get(120 + number) : 0;
            if (!b.delivered) return 0;
            if (!arrived.contains(b)) return 1;
            if (!valid) return 2;
            return ledger(tip()).blocks.contains(b) ? 4 : 3;
        }

        int coin(int c) {
            Ledger l = ledger(tip());
            if (!l.coinHeight.containsKey(c)) return 0;
            return l.spent.contains(c) ? 1 : 2;
        }

        int at(int t) {
            if (t < 0 || t >= txs.size()) return -1;
            return ledger(tip()).txHeight.getOrDefault(txs.get(t), -1);
        }

        int pool(int k) {
            return k < 0 || k >= pool.size() ? -1 : pool.get(k).number;
        }

        long fee(int k) {
            return k < 0 || k >= pool.size() ? 0 : fee(withPool(), pool.get(k));
        }

        long balance(int script) {
            Ledger l = ledger(tip());
            long sum = 0;
            for (int c : l.coinHeight.keySet()) {
                if (!l.spent.contains(c) && l.script.get(c) == script) sum += l.amount.get(c);
            }
            return sum;
        }
    }

    // One run: the same calls on a node and on a model.
    private static final class Run {
        final int number;
        final Random random;
        final CoinNode node = new CoinNode();
        final Model model = new Model();
        final boolean crowded;
        int calls = 0;

        Run(int number) {
            this.number = number;
            // Seeds that are near each other would begin with nearly the same choices.
            this.random = new Random(number * 0x9E3779B97F4A7C15L);
            this.crowded = oneIn(3);
        }

        int below(int n) {
            return random.nextInt(n);
        }

        boolean oneIn(int n) {
            return below(n) == 0;
        }

        int same(String call, long got, long want) {
            calls++;
            Due.is("run " + number + " call " + calls + ": " + call, got, want);
            return (int) want;
        }

        int wild() {
            return oneIn(2) ? below(200) - 20 : new int[] {Integer.MIN_VALUE, Integer.MAX_VALUE, -1, 8, 40}[below(5)];
        }

        int upTo(int n) {
            return oneIn(60) ? wild() : below(n);
        }

        void token(int script, int op, int v) {
            same("token(" + script + ", " + op + ", " + v + ")", node.token(script, op, v), model.token(script, op, v));
        }

        void input(int coin, int a, int b) {
            same("input(" + coin + ", " + a + ", " + b + ")", node.input(coin, a, b), model.input(coin, a, b));
        }

        void output(int amount, int script) {
            same("output(" + amount + ", " + script + ")", node.output(amount, script), model.output(amount, script));
        }

        int make() {
            return same("make()", node.make(), model.make());
        }

        void put(int t) {
            same("put(" + t + ")", node.put(t), model.put(t));
        }

        int mine(int parent, int work, int script) {
            return same("mine(" + parent + ", " + work + ", " + script + ")",
                node.mine(parent, work, script), model.mine(parent, work, script));
        }

        void deliver(int b) {
            same("deliver(" + b + ")", node.deliver(b), model.deliver(b));
        }

        void offer(int t) {
            same("offer(" + t + ")", node.offer(t), model.offer(t, false));
        }

        void forge(int work, int script) {
            same("forge(" + work + ", " + script + ")", node.forge(work, script), model.forge(work, script));
        }

        void writeScripts() {
            int kind = below(3);
            for (int s = 0; s < 8; s++) {
                int length = kind == 0 ? 0 : oneIn(3) ? below(9) : below(4);
                for (int i = 0; i < length; i++) {
                    int op = below(13);
                    token(s, op, op == 12 ? below(9) : op == 10 ? below(5) : below(12) - 2);
                }
            }
        }

        // Coins that a transaction may spend without rivals.
        List<Integer> freeCoins() {
            Ledger l = model.withPool();
            List<Integer> free = new ArrayList<>(l.coinHeight.keySet());
            free.removeIf(c -> l.spent.contains(c) || model.pool.stream().anyMatch(p -> p.hasCoin(c)));
            free.removeIf(c -> c >= 120 && l.coinHeight.get(c) >= model.tip().height());
            return free;
        }

        int anyCoin() {
            int from = below(12);
            List<Integer> free = freeCoins();
            if (crowded && from > 0 && !free.isEmpty()) return free.get(below(free.size()));
            if (from == 0) return wild();
            if (from < 4) return 120 + below(model.blocks.size());
            if (from < 7 && !model.pool.isEmpty()) return 3 * model.pool.get(below(model.pool.size())).number + below(2);
            if (from < 9 && !model.pool.isEmpty()) return model.pool.get(below(model.pool.size())).inputs.get(0)[0];
            List<Integer> unspent = new ArrayList<>();
            for (int c = 0; c < 152; c++) {
                if (model.coin(c) == 2) unspent.add(c);
            }
            return unspent.get(below(unspent.size()));
        }

        long worth(int coin) {
            Ledger l = model.withPool();
            return l.amount.getOrDefault(coin, 10L);
        }

        void makeTransaction() {
            long left = -below(2) * below(6);
            int inputs = oneIn(2) ? 1 : 1 + below(3);
            for (int i = 0; i < inputs; i++) {
                int coin = anyCoin();
                input(coin, below(5) - 1, oneIn(6) ? below(2000) - 1000 : 1 + below(2));
                left += worth(coin);
            }
            int outputs = 1 + below(3);
            for (int o = 0; o < outputs; o++) {
                int amount = (int) Math.max(1, left / outputs - below(5));
                output(oneIn(80) ? wild() : Math.min(amount, 1000), upTo(8));
            }
            int t = make();
            if (!oneIn(5)) offer(t);
            else if (oneIn(2)) put(t);
        }

        void makeBlock() {
            int parent = oneIn(3) ? upTo(model.blocks.size()) : model.tip().number;
            if (oneIn(3)) parent = Math.max(0, model.blocks.size() - 1 - below(3));
            int puts = oneIn(2) ? 0 : below(3);
            for (int i = 0; i < puts && !model.txs.isEmpty(); i++) {
                boolean pooled = oneIn(2) && !model.pool.isEmpty();
                put(pooled ? model.pool.get(below(model.pool.size())).number : upTo(model.txs.size()));
            }
            int b = mine(parent, oneIn(30) ? wild() : 1 + below(oneIn(4) ? 9 : 2), upTo(8));
            if (oneIn(3)) deliver(upTo(model.blocks.size()));
            if (!oneIn(4)) deliver(b);
        }

        // A branch some blocks below the tip, often with more work, whose blocks are delivered in any order.
        void makeBranch() {
            Block from = model.tip();
            for (int down = 1 + below(4); down > 0 && from.parent != null; down--) from = from.parent;
            int parent = from.number;
            List<Integer> made = new ArrayList<>();
            for (int length = 1 + below(4); length > 0; length--) {
                for (int i = below(4) - 1; i > 0 && !model.txs.isEmpty(); i--) put(below(model.txs.size()));
                parent = mine(parent, 1 + below(4), below(8));
                if (parent < 0) break;
                made.add(below(made.size() + 1), parent);
            }
            for (int b : made) deliver(b);
        }

        void ask() {
            for (int h = -1; h <= model.tip().height() + 1; h++) same("active(" + h + ")", node.active(h), model.active(h));
            for (int b = -1; b <= model.blocks.size(); b++) {
                for (int w = -1; w < 5; w++) same("block(" + b + ", " + w + ")", node.block(b, w), model.block(b, w));
            }
            for (int c = -1; c < 153; c++) same("coin(" + c + ")", node.coin(c), model.coin(c));
            for (int t = -1; t <= 40; t++) same("at(" + t + ")", node.at(t), model.at(t));
            for (int k = -1; k < 13; k++) {
                same("pool(" + k + ")", node.pool(k), model.pool(k));
                same("fee(" + k + ")", node.fee(k), model.fee(k));
            }
            for (int s = -1; s < 9; s++) same("balance(" + s + ")", node.balance(s), model.balance(s));
        }

        void run() {
            if (!crowded && !oneIn(3)) writeScripts();
            for (int i = 0; i < 3; i++) mine(i, 1, oneIn(2) ? 0 : below(8));
            for (int i = 1; i < 4; i++) deliver(i);
            // Questions do not count here: they change nothing, and a run without most of them is the same run.
            int changes = calls;
            int steps = 60 + below(80);
            int blocksOften = 1 + below(crowded ? 3 : 10);
            for (int i = 0; i < steps && changes < CALLS; i++) {
                int before = calls;
                int what = below(20);
                if (what < blocksOften && oneIn(3)) makeBranch();
                else if (what < blocksOften && oneIn(3)) forge(oneIn(30) ? wild() : 1 + below(3), upTo(8));
                else if (what < blocksOften) makeBlock();
                else if (what < 16) makeTransaction();
                else if (what < 18) offer(upTo(Math.max(1, model.txs.size())));
                else if (oneIn(3)) deliver(upTo(model.blocks.size()));
                else if (oneIn(2)) put(upTo(Math.max(1, model.txs.size())));
                else token(upTo(8), upTo(13), upTo(9));
                changes += calls - before;
                if (oneIn(8)) ask();
            }
            ask();
        }
    }

    public static void main(String[] args) {
        for (int run = 0; run < RUNS; run++) new Run(run).run();
        Due.end();
    }
}
