import java.math.BigInteger;
import java.util.ArrayList;
import java.util.List;

/** What the document's words come to, with numbers that never wrap: for the answers that are due. */
final class Words {
    private static final BigInteger ALL_64_BITS = BigInteger.ONE.shiftLeft(64);
    private static final BigInteger TIMES = new BigInteger("6364136223846793005");
    private static final BigInteger AND = new BigInteger("1442695040888963407");

    /** Keys of which each is above all that are less: a tree of them goes down to the left alone. */
    static final int[] CHAIN = {30, 29, 24, 23, 21, 19};
    /** Values by which the tree of CHAIN has the least digest that there is, 1; and others by which it has it, too. */
    static final int[] LEAST_DIGEST = {56, 45, 50, 0, 33, 9};
    static final int[] LEAST_DIGEST_TOO = {51, 3, 10, 0, 56, 71};
    /** Values by which it has the greatest one, 2147483647. */
    static final int[] GREATEST_DIGEST = {21, 64, 68, 0, 32, 64};

    private Words() {
    }

    static int rank(int key) {
        return BigInteger.valueOf(key + 3).pow(3).multiply(BigInteger.valueOf(4721))
                .mod(BigInteger.valueOf(10007)).intValueExact();
    }

    static int digest(int key, int value, int left, int right) {
        BigInteger x = BigInteger.valueOf(17);
        for (int it : new int[] {key, value, left, right}) {
            x = x.multiply(BigInteger.valueOf(1000003)).add(BigInteger.valueOf(it)).mod(BigInteger.valueOf(2147483647));
        }
        return x.add(BigInteger.ONE).intValueExact();
    }

    static int nodeItem(int key, int value) {
        return -100 - (100 * key + value);
    }

    /** What n times comes of x: 100 times a key, and its value. */
    static int[] scattered(int n, long x) {
        int[] pairs = new int[n];
        BigInteger seed = BigInteger.valueOf(x).mod(ALL_64_BITS);
        for (int time = 0; time < n; time++) {
            seed = seed.multiply(TIMES).add(AND).mod(ALL_64_BITS);
            int upper = seed.shiftRight(33).intValueExact();
            pairs[time] = 100 * (upper % 100) + upper / 128 % 100;
        }
        return pairs;
    }

    /** Of the numbers lo .. hi that which is above all others. */
    private static int highest(int lo, int hi) {
        int highest = lo;
        for (int key = lo; key <= hi; key++) {
            highest = rank(key) > rank(highest) ? key : highest;
        }
        return highest;
    }

    /** The items of the tree in which each number lo .. hi is a key with one value. */
    static List<Integer> itemsOfAll(int lo, int hi, int value) {
        List<Integer> items = new ArrayList<>();
        if (lo > hi) {
            items.add(0);
        } else {
            int top = highest(lo, hi);
            items.add(nodeItem(top, value));
            items.addAll(itemsOfAll(lo, top - 1, value));
            items.addAll(itemsOfAll(top + 1, hi, value));
        }
        return items;
    }

    static int digestOfAll(int lo, int hi, int value) {
        if (lo > hi) {
            return 0;
        }
        int top = highest(lo, hi);
        return digest(top, value, digestOfAll(lo, top - 1, value), digestOfAll(top + 1, hi, value));
    }

    /** A new object whose reader was told these items. */
    static BorderProofs told(int... items) {
        BorderProofs x = new BorderProofs();
        for (int item : items) {
            x.tell(item);
        }
        return x;
    }

    /** A new object with these keys, each with the value 1. */
    static BorderProofs with(int... keys) {
        BorderProofs x = new BorderProofs();
        for (int key : keys) {
            x.put(key, 1);
        }
        return x;
    }

    static void putChain(BorderProofs x, int[] values) {
        for (int place = 0; place < CHAIN.length; place++) {
            x.put(CHAIN[place], values[place]);
        }
    }

    /** The items of all of CHAIN: each node with what is left of it, then a 0 for what is right of each. */
    static int[] chainItems(int[] values) {
        int[] items = new int[2 * CHAIN.length + 1];
        for (int place = 0; place < CHAIN.length; place++) {
            items[place] = nodeItem(CHAIN[place], values[place]);
        }
        return items;
    }

    static int chainDigest(int[] values) {
        int digest = 0;
        for (int place = CHAIN.length - 1; place >= 0; place--) {
            digest = digest(CHAIN[place], values[place], digest, 0);
        }
        return digest;
    }

    /** A new object with 40 keys from one on, each with the value 1. */
    static BorderProofs forty(int first) {
        BorderProofs x = new BorderProofs();
        for (int key = first; key < first + 40; key++) {
            x.put(key, 1);
        }
        return x;
    }
}
