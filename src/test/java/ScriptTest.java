// The Terms' SCRIPTS: what each token does, when a script FAILS and when it FITS.
public final class ScriptTest extends ScriptRuns {
    public static void main(String[] args) {
        stackAtFirst();
        pushDupDropSwap();
        arithmetic();
        comparisons();
        verify();
        hash();
        ageAndHeight();
        skip();
        coinsOfTheSameBlock();
        Due.end();
    }

    private static void stackAtFirst() {
        fits(YES, 0, 1);
        fits(NO, 1, 0);
        fits(YES, 0, -1);
        fits(YES, 0, LEAST);
        fits(YES, 5, 0, DROP, 0, PUSH, 5, EQUAL, 0);
    }

    private static void pushDupDropSwap() {
        fits(YES, 0, 0, PUSH, 5);
        fits(NO, 1, 1, PUSH, 0);
        fits(YES, 0, 0, PUSH, LEAST, PUSH, LEAST, EQUAL, 0);
        fits(YES, 1, 1, PUSH, 1, PUSH, 1, PUSH, 1, PUSH, 1);
        fits(NO, 1, 1, PUSH, 1, PUSH, 1, PUSH, 1, PUSH, 1, PUSH, 1);
        fits(NO, 1, 1, PUSH, 1, PUSH, 1, PUSH, 1, PUSH, 1, PUSH, 1, DROP, 0);
        fits(YES, 7, 3, DUP, 0, EQUAL, 0);
        fits(YES, 7, 3, DUP, 0, DROP, 0, PUSH, 3, EQUAL, 0);
        fits(YES, 1, 1, DUP, 0, DUP, 0, DUP, 0, DUP, 0);
        fits(NO, 1, 1, DUP, 0, DUP, 0, DUP, 0, DUP, 0, DUP, 0);
        fits(NO, 1, 1, DROP, 0, DROP, 0, DUP, 0, PUSH, 1);
        fits(YES, 1, 0, DROP, 0);
        fits(NO, 0, 1, DROP, 0);
        fits(NO, 1, 1, DROP, 0, DROP, 0);
        fits(YES, 0, 0, DROP, 0, DROP, 0, PUSH, 1);
        fits(NO, 1, 1, DROP, 0, DROP, 0, DROP, 0, PUSH, 1);
        fits(YES, 1, 0, SWAP, 0);
        fits(NO, 0, 1, SWAP, 0);
        fits(YES, 4, 9, SWAP, 0, DROP, 0, PUSH, 9, EQUAL, 0);
        fits(NO, 1, 1, DROP, 0, SWAP, 0, PUSH, 1);
    }

    private static void arithmetic() {
        fits(YES, 2, 3, ADD, 0, PUSH, 5, EQUAL, 0);
        fits(NO, 2, -2, ADD, 0);
        fits(YES, MOST, 1, ADD, 0, PUSH, LEAST, EQUAL, 0);
        fits(NO, LEAST, LEAST, ADD, 0);
        fits(NO, 1, 1, ADD, 0, ADD, 0, PUSH, 1);
        fits(NO, 1, 1, ADD, 0, DROP, 0);
        fits(YES, -4, 3, MULTIPLY, 0, PUSH, -12, EQUAL, 0);
        fits(NO, 65536, 65536, MULTIPLY, 0);
        fits(YES, 65536, 32768, MULTIPLY, 0, PUSH, LEAST, EQUAL, 0);
        fits(NO, 1, 1, MULTIPLY, 0, MULTIPLY, 0, PUSH, 1);
        fits(NO, 1, 1, MULTIPLY, 0, DROP, 0);
        fits(YES, 1, 1, PUSH, 1, PUSH, 1, PUSH, 1, PUSH, 1, ADD, 0, MULTIPLY, 0);
    }

    private static void comparisons() {
        fits(YES, 3, 3, EQUAL, 0);
        fits(NO, 3, 4, EQUAL, 0);
        fits(YES, 9, 9, EQUAL, 0, PUSH, 1, EQUAL, 0);
        fits(YES, 8, 9, EQUAL, 0, PUSH, 0, EQUAL, 0);
        fits(NO, 1, 1, EQUAL, 0, EQUAL, 0, PUSH, 1);
        fits(YES, 3, 4, LESS, 0);
        fits(NO, 4, 3, LESS, 0);
        fits(NO, 3, 3, LESS, 0);
        fits(YES, LEAST, MOST, LESS, 0, PUSH, 1, EQUAL, 0);
        fits(NO, MOST, LEAST, LESS, 0);
        fits(YES, 4, 3, LESS, 0, PUSH, 0, EQUAL, 0);
        fits(NO, 1, 2, LESS, 0, LESS, 0, PUSH, 1);
        fits(NO, 1, 2, LESS, 0, DROP, 0);
    }

    private static void verify() {
        fits(YES, 1, 1, VERIFY, 0);
        fits(YES, 1, -1, VERIFY, 0);
        fits(NO, 1, 0, VERIFY, 0);
        fits(NO, 0, 1, VERIFY, 0);
        fits(NO, 1, 0, VERIFY, 0, PUSH, 1);
        fits(NO, 1, 1, VERIFY, 0, VERIFY, 0);
        fits(NO, 1, 1, VERIFY, 0, VERIFY, 0, VERIFY, 0, PUSH, 1);
    }

    private static void hash() {
        for (int x : new int[] {0, 1, -1, 32, 33, 1008, 1009, -1998, 69273666, 69273667, LEAST, MOST}) {
            int rest = (int) Math.floorMod(31L * x + 7L, 1009L);
            fits(YES, 0, x, HASH, 0, PUSH, rest, EQUAL, 0);
            fits(YES, x, 1, SWAP, 0, HASH, 0, PUSH, rest, EQUAL, 0);
        }
        fits(YES, 0, 1, HASH, 0, PUSH, 38, EQUAL, 0);
        fits(YES, 0, -1, HASH, 0, PUSH, 985, EQUAL, 0);
        int zero = 0;
        while ((31 * zero + 7) % 1009 != 0) zero++;
        fits(NO, 1, zero, HASH, 0);
        fits(NO, 1, 1, DROP, 0, DROP, 0, HASH, 0, PUSH, 1);
    }

    private static void ageAndHeight() {
        fits(YES, 0, 1, AGE, 3);
        fits(NO, 0, 1, AGE, 4);
        fits(YES, 0, 1, AGE, 0);
        fits(YES, 0, 1, AGE, LEAST);
        fits(NO, 0, 1, AGE, MOST);
        fits(NO, 1, 0, AGE, 3);
        fits(YES, 0, 0, DROP, 0, DROP, 0, AGE, 1, PUSH, 1);
        fits(YES, 0, 0, HEIGHT, 0, PUSH, 4, EQUAL, 0);
        fits(YES, 0, 0, HEIGHT, 9, PUSH, 4, EQUAL, 0);
        fits(YES, 0, 0, PUSH, 1, PUSH, 1, PUSH, 1, HEIGHT, 0);
        fits(NO, 0, 0, PUSH, 1, PUSH, 1, PUSH, 1, PUSH, 1, HEIGHT, 0);
    }

    private static void skip() {
        fits(YES, 7, 0, SKIP, 2, PUSH, 0, VERIFY, 0);
        fits(NO, 7, 1, SKIP, 2, PUSH, 0, VERIFY, 0);
        fits(NO, 7, -1, SKIP, 2, PUSH, 0, VERIFY, 0);
        fits(NO, 7, 0, SKIP, 1, PUSH, 0, PUSH, 0);
        fits(NO, 7, 0, SKIP, 0, PUSH, 0);
        fits(YES, 7, 0, SKIP, 0);
        fits(YES, 7, 0, SKIP, 8, PUSH, 0);
        fits(NO, 0, 1, SKIP, 8);
        fits(NO, 7, 0, SKIP, 1, SKIP, 8, PUSH, 0);
        fits(YES, 0, 0, SKIP, 2, DROP, 0, DROP, 0, PUSH, 1);
        fits(NO, 1, 1, DROP, 0, DROP, 0, SKIP, 0, PUSH, 1);
        fits(YES, 1, 0, SKIP, 7, DROP, 0, DROP, 0, DROP, 0, DROP, 0, DROP, 0, DROP, 0, DROP, 0);
        fits(NO, 1, 0, SKIP, 6, DROP, 0, DROP, 0, DROP, 0, DROP, 0, DROP, 0, DROP, 0, DROP, 0);
    }

    // g is h for a coin of the same block and for a coin of the pool.
    private static void coinsOfTheSameBlock() {
        for (int age = 0; age < 2; age++) {
            CoinNode x = new CoinNode();
            x.token(1, AGE, age);
            Steps.grow(x, 0);
            Steps.grow(x, 1);
            x.input(120, 1, 1);
            x.output(10, 1);
            x.make();
            Steps.spend(x, 0, 5);
            x.offer(0);
            Due.is("AGE " + age + " of a coin of the pool", x.offer(1), age == 0 ? 2 : CoinNode.LATE);
            int block = Steps.mined(x, 2, 1, 0, 1);
            Due.is("AGE " + age + " of a coin of the block", x.block(block, 0), age == 0 ? 4 : 2);
        }
    }
}
