import java.util.Arrays;
import java.util.HashSet;
import java.util.Set;

/** Each boundary case that the document names for the map, its tree and its doings (promises 1 to 9): a test each. */
public final class EdgesMapTest {
    private static final Check CHECK = new Check("EdgesMapTest");
    private static final int UNKNOWN = -1, BAD = -2, LATE = -3, FULL = -4, NONE = -9;
    /** The first on each side that is no number 0 .. 99, and the last. */
    private static final int[] NO_NUMBERS = {-1, 100, Integer.MIN_VALUE, Integer.MAX_VALUE};

    public static void main(String[] args) {
        newObjectHasNoKeys();
        newObjectHasNoDoings();
        newReaderHasNothing();
        newObjectHasNoneKept();
        keysAreTheirOwn();
        putTakesLeastAndGreatest();
        putRefusesTheFirstBeyond();
        putAnswersWhatValueItHad();
        fortyKeysAreTaken();
        the41stIsFull();
        fullIsOnlyForAnotherKey();
        removeTakesLeastAndGreatest();
        removeDownToNone();
        getTakesLeastAndGreatest();
        scatterTakesOneToTwenty();
        scatterWrapsAround();
        scatterTakesTheUpperBits();
        scatterPassesThe41stBy();
        scatterIsOneDoing();
        scatterThatChangesNothingIsADoing();
        undoIsLateWithoutDoings();
        fourteenDoingsAreRemembered();
        theFirstOf15IsForgotten();
        eachKindOfDoingIsUndone();
        doingsGoRoundAndRound();
        aboutTakesZeroToSeven();
        aboutOfNoKeys();
        aboutOfFortyKeys();
        heightOfAChain();
        nodeTakesZeroToSeven();
        nodeAlone();
        bordersBesideOneAnother();
        nodeIsUnknown();
        ranksDoNotWrap();
        noRanksAreLike();
        digestsDoNotWrap();
        leastAndGreatestDigest();
        treeIsOneInWhateverRow();
        the512thCall();
        CHECK.finish();
    }

    private static void due(String call, long got, long want) {
        CHECK.due(call, got, want);
    }

    // ---- promise 1

    /** "none at first", "No keys". */
    private static void newObjectHasNoKeys() {
        due("new about(0)", new BorderProofs().about(0), 0);
        due("new get(0)", new BorderProofs().get(0), NONE);
        due("new get(99)", new BorderProofs().get(99), NONE);
        due("new remove(0)", new BorderProofs().remove(0), UNKNOWN);
        due("new node(0, 0)", new BorderProofs().node(0, 0), UNKNOWN);
        due("new keep(0)", new BorderProofs().keep(0), 0);
        due("new send(0, 99): no tree", new BorderProofs().send(0, 99), 1);
    }

    private static void newObjectHasNoDoings() {
        due("new about(4)", new BorderProofs().about(4), 0);
        due("new undo()", new BorderProofs().undo(), LATE);
    }

    /** "none at first" (its row), "0 at first" (what it trusts), "none at first" (FORMER). */
    private static void newReaderHasNothing() {
        due("new about(5)", new BorderProofs().about(5), 0);
        due("new about(6)", new BorderProofs().about(6), 0);
        due("new about(7)", new BorderProofs().about(7), 0);
        due("new former(0)", new BorderProofs().former(0), UNKNOWN);
        due("new alter(0, 0)", new BorderProofs().alter(0, 0), UNKNOWN);
        due("new cut(0)", new BorderProofs().cut(0), 0);
        due("new cut(1)", new BorderProofs().cut(1), BAD);
        due("new read(0, 99)", new BorderProofs().read(0, 99), 1);
        due("new learnt(0, 99, 0)", new BorderProofs().learnt(0, 99, 0), LATE);
        due("new found(0, 99, 0)", new BorderProofs().found(0, 99, 0), LATE);
        due("new step(0, 0)", new BorderProofs().step(0, 0), LATE);
        due("new follow(0, 0)", new BorderProofs().follow(0, 0), LATE);
        due("0 is trusted: a row of 0 is fine", Words.told(0).read(0, 99), 0);
    }

    private static void newObjectHasNoneKept() {
        for (int slot = 0; slot < 2; slot++) {
            due("new again(" + slot + ")", new BorderProofs().again(slot), LATE);
            due("new differ(" + slot + ", 0)", new BorderProofs().differ(slot, 0), LATE);
        }
    }

    private static void keysAreTheirOwn() {
        BorderProofs one = Words.with(3);
        BorderProofs other = new BorderProofs();
        one.keep(0);
        one.believe(7);
        one.tell(0);
        for (int what = 0; what < 8; what++) {
            due("about(" + what + ") of another object", other.about(what), 0);
        }
        due("its slot", other.again(0), LATE);
    }

    // ---- promise 2

    /** "KEYS are numbers 0 .. 99, VALUES 0 .. 99." */
    private static void putTakesLeastAndGreatest() {
        for (int key : new int[] {0, 1, 98, 99}) {
            for (int value : new int[] {0, 1, 98, 99}) {
                BorderProofs x = new BorderProofs();
                due("put(" + key + ", " + value + ")", x.put(key, value), NONE);
                due("get(" + key + ")", x.get(key), value);
            }
        }
    }

    /** "BAD: key, value". */
    private static void putRefusesTheFirstBeyond() {
        for (int no : NO_NUMBERS) {
            due("put(" + no + ", 0)", new BorderProofs().put(no, 0), BAD);
            due("put(" + no + ", 99)", new BorderProofs().put(no, 99), BAD);
            due("put(0, " + no + ")", new BorderProofs().put(0, no), BAD);
            due("put(99, " + no + ")", new BorderProofs().put(99, no), BAD);
            due("put(" + no + ", " + no + ")", new BorderProofs().put(no, no), BAD);
        }
        due("NONE is no value", new BorderProofs().put(0, NONE), BAD);
    }

    /** "what VALUE it had; NONE": 0 is a value that it had. */
    private static void putAnswersWhatValueItHad() {
        BorderProofs x = new BorderProofs();
        due("it had none", x.put(0, 0), NONE);
        due("it had 0", x.put(0, 99), 0);
        due("it had 99", x.put(0, 99), 99);
        due("the same value", x.put(0, 0), 99);
        x.remove(0);
        due("it has none any more", x.put(0, 5), NONE);
    }

    /** "40 at most". */
    private static void fortyKeysAreTaken() {
        for (int first : new int[] {0, 30, 60}) {
            BorderProofs x = new BorderProofs();
            for (int key = first; key < first + 40; key++) {
                due("put of " + key, x.put(key, 1), NONE);
            }
            due("about(0)", x.about(0), 40);
        }
    }

    /** "FULL: it would be the 41st." */
    private static void the41stIsFull() {
        BorderProofs x = Words.forty(30);
        due("put(0, 0)", x.put(0, 0), FULL);
        due("put(29, 0)", x.put(29, 0), FULL);
        due("put(70, 99)", x.put(70, 99), FULL);
        due("put(99, 99)", x.put(99, 99), FULL);
        due("get(0)", x.get(0), NONE);
        due("about(0)", x.about(0), 40);
        x.undo();
        due("39 keys: there is room", x.put(0, 0), NONE);
        due("40 keys: there is none", x.put(69, 0), FULL);
    }

    private static void fullIsOnlyForAnotherKey() {
        BorderProofs x = Words.forty(30);
        due("put of the least that is there", x.put(30, 7), 1);
        due("put of the greatest that is there", x.put(69, 8), 1);
        due("about(0)", x.about(0), 40);
        x.remove(50);
        due("the 40th again", x.put(99, 0), NONE);
        due("50 would be the 41st", x.put(50, 1), FULL);
    }

    // ---- promises 3 and 4

    private static void removeTakesLeastAndGreatest() {
        BorderProofs x = new BorderProofs();
        x.put(0, 0);
        x.put(99, 99);
        due("remove(0)", x.remove(0), 0);
        due("remove(99)", x.remove(99), 99);
        due("remove(0) of none", x.remove(0), UNKNOWN);
        due("remove(99) of none", x.remove(99), UNKNOWN);
        for (int no : NO_NUMBERS) {
            due("remove(" + no + ")", x.remove(no), BAD);
        }
    }

    private static void removeDownToNone() {
        BorderProofs x = Words.forty(0);
        for (int key = 39; key >= 0; key--) {
            due("remove(" + key + ")", x.remove(key), 1);
            due("keys left", x.about(0), key);
            due("ROOT", x.about(1), Words.digestOfAll(0, key - 1, 1));
        }
        due("no tree", x.proof(0, 99, 0), 1);
    }

    private static void getTakesLeastAndGreatest() {
        BorderProofs x = new BorderProofs();
        x.put(0, 0);
        x.put(99, 99);
        due("get(0)", x.get(0), 0);
        due("get(99)", x.get(99), 99);
        due("get(1)", x.get(1), NONE);
        due("get(98)", x.get(98), NONE);
        for (int no : NO_NUMBERS) {
            due("get(" + no + ")", x.get(no), BAD);
        }
    }

    // ---- promise 5

    /** "n times (1 .. 20)". */
    private static void scatterTakesOneToTwenty() {
        due("scatter(1, 5)", new BorderProofs().scatter(1, 5), 1);
        due("scatter(20, 5)", new BorderProofs().scatter(20, 5), 19);
        BorderProofs one = new BorderProofs();
        one.scatter(1, 5);
        int pair = Words.scattered(1, 5)[0];
        due("its tree", one.about(1), Words.digest(pair / 100, pair % 100, 0, 0));
        for (int n : new int[] {0, 21, -1, Integer.MIN_VALUE, Integer.MAX_VALUE}) {
            for (long seed : new long[] {0, 1, Long.MIN_VALUE, Long.MAX_VALUE}) {
                due("scatter(" + n + ", " + seed + ")", new BorderProofs().scatter(n, seed), BAD);
            }
        }
    }

    private static void dueScattered(int n, long seed) {
        BorderProofs x = new BorderProofs();
        int[] values = new int[100];
        Arrays.fill(values, NONE);
        int many = 0;
        for (int pair : Words.scattered(n, seed)) {
            many += values[pair / 100] == NONE ? 1 : 0;
            values[pair / 100] = pair % 100;
        }
        due("scatter(" + n + ", " + seed + ")", x.scatter(n, seed), many);
        for (int key = 0; key < 100; key++) {
            due("scatter(" + n + ", " + seed + "), get(" + key + ")", x.get(key), values[key]);
        }
    }

    /** "64 bits, wrapping". */
    private static void scatterWrapsAround() {
        long[] seeds = {0, 1, -1, 2, Long.MAX_VALUE, Long.MIN_VALUE, Long.MAX_VALUE - 1, Long.MIN_VALUE + 1,
            Integer.MAX_VALUE, Integer.MIN_VALUE, 1L << 32, 1L << 62, -6364136223846793005L};
        for (long seed : seeds) {
            for (int n : new int[] {1, 2, 19, 20}) {
                dueScattered(n, seed);
            }
        }
    }

    /** "of its upper 31 bits": x with its highest bit is no number below 0, and the 32nd bit is no part of them. */
    private static void scatterTakesTheUpperBits() {
        boolean high = false;
        boolean low = false;
        boolean next = false;
        for (long seed = 0; seed < 40; seed++) {
            long x = seed * 6364136223846793005L + 1442695040888963407L;
            high |= x < 0;
            low |= x >= 0;
            next |= (x >>> 32 & 1) == 1;
            dueScattered(1, seed);
        }
        due("both signs were met", high && low && next ? 1 : 0, 1);
    }

    /** "PUT, but for a 41st KEY (that is passed by)": those behind it that are there, get their values. */
    private static void scatterPassesThe41stBy() {
        int[] pairs = Words.scattered(3, 1);
        int first = pairs[0] / 100;
        int second = pairs[1] / 100;
        int third = pairs[2] / 100;
        due("three keys", first != second && second != third && first != third ? 1 : 0, 1);
        BorderProofs x = new BorderProofs();
        x.put(third, (pairs[2] + 1) % 100);
        for (int key = 0; x.about(0) < 39; key++) {
            if (key != first && key != second && key != third) {
                x.put(key, key);
            }
        }
        due("scatter(3, 1) with 39 keys", x.scatter(3, 1), 40);
        due("the first is the 40th", x.get(first), pairs[0] % 100);
        due("the second would be the 41st", x.get(second), NONE);
        due("the third is there", x.get(third), pairs[2] % 100);
        due("scatter(2, 1) with 40 keys", x.scatter(2, 1), 40);
        due("the second is passed by once more", x.get(second), NONE);
    }

    /** "All that is one DOING." */
    private static void scatterIsOneDoing() {
        BorderProofs x = Words.with(7);
        int root = x.about(1);
        x.scatter(20, 3);
        due("about(4)", x.about(4), 2);
        due("undo()", x.undo(), 1);
        due("all is undone", x.about(1), root);
        due("about(0)", x.about(0), 1);
    }

    private static void scatterThatChangesNothingIsADoing() {
        BorderProofs x = Words.forty(0);
        x.keep(0);
        x.again(0);
        // x = 1 tells key 74, a 41st
        due("scatter(1, 1)", x.scatter(1, 1), 40);
        due("about(4)", x.about(4), 1);
        due("undo()", x.undo(), 0);
        due("about(0)", x.about(0), 40);
        due("undo() of none", x.undo(), LATE);
    }

    // ---- promise 6

    /** "LATE: there is none." */
    private static void undoIsLateWithoutDoings() {
        BorderProofs x = Words.with(5);
        due("undo()", x.undo(), 0);
        due("undo() of none", x.undo(), LATE);
        due("undo() of none once more", x.undo(), LATE);
        due("about(4)", x.about(4), 0);
        due("about(0)", x.about(0), 0);
    }

    /** "14 at most". */
    private static void fourteenDoingsAreRemembered() {
        BorderProofs x = new BorderProofs();
        for (int many = 1; many <= 14; many++) {
            x.put(many, many);
            due("doings", x.about(4), many);
        }
        for (int left = 13; left >= 0; left--) {
            due("undo()", x.undo(), left);
            due("keys", x.about(0), left);
        }
        due("all are undone: ROOT", x.about(1), 0);
        due("undo() of none", x.undo(), LATE);
    }

    /** "when it is full, the first one is forgotten". */
    private static void theFirstOf15IsForgotten() {
        BorderProofs x = new BorderProofs();
        for (int key = 1; key <= 15; key++) {
            x.put(key, key);
        }
        due("doings", x.about(4), 14);
        for (int left = 13; left >= 0; left--) {
            due("undo()", x.undo(), left);
        }
        due("undo() of the first", x.undo(), LATE);
        due("the first is not undone", x.get(1), 1);
        due("the second is", x.get(2), NONE);
        due("about(0)", x.about(0), 1);
    }

    private static void eachKindOfDoingIsUndone() {
        BorderProofs x = Words.with(0);
        int first = x.about(1);
        x.put(0, 99);
        int second = x.about(1);
        x.remove(0);
        x.scatter(20, 9);
        due("undo() of a SCATTERED", x.undo(), 3);
        due("ROOT", x.about(1), 0);
        due("undo() of a REMOVED", x.undo(), 2);
        due("ROOT", x.about(1), second);
        due("undo() of a PUT", x.undo(), 1);
        due("ROOT", x.about(1), first);
        due("undo() of the first PUT", x.undo(), 0);
        due("ROOT", x.about(1), 0);
    }

    /** More doings than are remembered, some undone, and more. */
    private static void doingsGoRoundAndRound() {
        BorderProofs x = new BorderProofs();
        for (int value = 1; value <= 33; value++) {
            x.put(7, value);
        }
        for (int time = 0; time < 5; time++) {
            x.undo();
        }
        due("9 are left", x.about(4), 9);
        due("get(7)", x.get(7), 28);
        for (int value = 50; value < 60; value++) {
            x.put(7, value);
        }
        due("14 again", x.about(4), 14);
        for (int value = 58; value >= 50; value--) {
            x.undo();
            due("get(7)", x.get(7), value);
        }
        for (int value = 28; value >= 24; value--) {
            x.undo();
            due("get(7)", x.get(7), value);
        }
        due("undo() of none", x.undo(), LATE);
    }

    // ---- promise 7

    private static void aboutTakesZeroToSeven() {
        for (int what : new int[] {-1, 8, Integer.MIN_VALUE, Integer.MAX_VALUE}) {
            due("about(" + what + ")", Words.with(1).about(what), BAD);
        }
        due("about(0)", Words.with(1).about(0), 1);
        due("about(7)", Words.with(1).about(7), 0);
    }

    /** "no KEYS: 0". */
    private static void aboutOfNoKeys() {
        BorderProofs x = Words.with(5);
        x.remove(5);
        for (int what = 0; what < 4; what++) {
            due("about(" + what + ")", x.about(what), 0);
        }
        due("about(2) of one key", Words.with(5).about(2), 1);
        due("about(2) of key 0 alone", Words.with(0).about(2), 1);
        due("about(2) of key 99 alone", Words.with(99).about(2), 1);
    }

    private static void aboutOfFortyKeys() {
        BorderProofs x = new BorderProofs();
        for (int key = 60; key < 100; key++) {
            x.put(key, 99);
        }
        due("about(0)", x.about(0), 40);
        due("about(1)", x.about(1), Words.digestOfAll(60, 99, 99));
        due("about(3)", x.about(3), 3960);
    }

    /** 40 above 45 above 59 above 63 above 76 above 85 above 98 above 99, each to the right; 42 hangs on 45. */
    private static void heightOfAChain() {
        BorderProofs x = Words.with(99, 98, 85, 76, 63, 59, 45, 40);
        due("about(2)", x.about(2), 8);
        due("node(99, 0)", x.node(99, 0), 7);
        x.put(42, 0);
        due("a shorter way beside it", x.about(2), 8);
        x.remove(99);
        due("without the lowest", x.about(2), 7);
        // 8 above 6 above 3 above 0: to the left
        due("a chain down to 0", Words.with(0, 3, 6, 8).about(2), 4);
    }

    // ---- promise 8

    private static void nodeTakesZeroToSeven() {
        BorderProofs x = Words.with(0, 99);
        for (int what : new int[] {-1, 8, Integer.MIN_VALUE, Integer.MAX_VALUE}) {
            due("node(0, " + what + ")", x.node(0, what), BAD);
            due("node(99, " + what + ")", x.node(99, what), BAD);
        }
        // 99 (8453) is above 0 (7383)
        due("node(0, 0)", x.node(0, 0), 1);
        due("node(0, 1)", x.node(0, 1), 99);
        due("node(99, 2): key 0 is no NONE", x.node(99, 2), 0);
        due("node(0, 7)", x.node(0, 7), 98);
        due("node(99, 7)", x.node(99, 7), 99);
        // 0 (7383) is above 1 (1934)
        due("node(1, 1): key 0 is no NONE", Words.with(0, 1).node(1, 1), 0);
        due("node(98, 3)", Words.with(98, 99).node(98, 3), 99);
    }

    /** "none", where nothing hangs and on nothing it hangs. */
    private static void nodeAlone() {
        for (int key : new int[] {0, 50, 99}) {
            BorderProofs x = Words.with(key);
            int[] due = {0, NONE, NONE, NONE, 1, Words.digest(key, 1, 0, 0), 0, 99};
            for (int what = 0; what < 8; what++) {
                due("node(" + key + ", " + what + ")", x.node(key, what), due[what]);
            }
        }
    }

    /** "k less 1", "k and 1": 26 above 24, that above 25, for which there is one number alone. */
    private static void bordersBesideOneAnother() {
        BorderProofs x = Words.with(24, 25, 26);
        int[][] due = {{26, 0, 99}, {24, 0, 25}, {25, 25, 25}};
        for (int[] of : due) {
            due("node(" + of[0] + ", 6)", x.node(of[0], 6), of[1]);
            due("node(" + of[0] + ", 7)", x.node(of[0], 7), of[2]);
        }
        BorderProofs y = Words.with(2, 0, 1);
        due("to the left of 2: lo", y.node(0, 6), 0);
        due("to the left of 2: hi", y.node(0, 7), 1);
        due("between 0 and 2: lo", y.node(1, 6), 1);
        due("between 0 and 2: hi", y.node(1, 7), 1);
        BorderProofs z = Words.with(98, 99);
        due("to the right of 98: lo", z.node(99, 6), 99);
        due("to the right of 98: hi", z.node(99, 7), 99);
    }

    /** "there is no such KEY in THE MAP". */
    private static void nodeIsUnknown() {
        BorderProofs x = Words.with(24, 26);
        for (int key : new int[] {0, 23, 25, 27, 99, -1, 100, Integer.MIN_VALUE, Integer.MAX_VALUE}) {
            for (int what = 0; what < 8; what++) {
                due("node(" + key + ", " + what + ")", x.node(key, what), UNKNOWN);
            }
        }
        x.remove(24);
        due("node(24, 4) of a removed one", x.node(24, 4), UNKNOWN);
    }

    // ---- promise 9, and what is one for each set of keys

    /** From key 74 on 4721 times the third power is more than an int holds. */
    private static void ranksDoNotWrap() {
        BorderProofs x = new BorderProofs();
        for (int key = 0; key < 100; key++) {
            due("rank(" + key + ")", x.rank(key), Words.rank(key));
        }
        due("rank(73)", x.rank(73), 4721L * 438976 % 10007);
        due("rank(74)", x.rank(74), 4721L * 456533 % 10007);
        for (int no : NO_NUMBERS) {
            due("rank(" + no + ")", x.rank(no), BAD);
        }
        due("a key needs not be in the map", Words.with(5).rank(6), x.rank(6));
    }

    /** "of like ones, if it is less" is never met: the ranks of 0 .. 99 are all unlike. */
    private static void noRanksAreLike() {
        BorderProofs x = new BorderProofs();
        Set<Integer> ranks = new HashSet<>();
        for (int key = 0; key < 100; key++) {
            ranks.add(x.rank(key));
        }
        due("unlike ranks", ranks.size(), 100);
    }

    private static void digestsDoNotWrap() {
        for (int key : new int[] {0, 1, 50, 98, 99}) {
            for (int value : new int[] {0, 1, 99}) {
                BorderProofs x = new BorderProofs();
                x.put(key, value);
                due("DIGEST of " + key + " with " + value, x.about(1), Words.digest(key, value, 0, 0));
            }
        }
        for (int first = 0; first <= 60; first++) {
            due("ROOT of 40 keys from " + first, Words.forty(first).about(1), Words.digestOfAll(first, first + 39, 1));
        }
    }

    /** "1 and what comes of .., by 2147483647": the least is 1, the greatest 2147483647. */
    private static void leastAndGreatestDigest() {
        int[][] values = {Words.LEAST_DIGEST, Words.LEAST_DIGEST_TOO, Words.GREATEST_DIGEST};
        int[] digests = {1, 1, Integer.MAX_VALUE};
        for (int i = 0; i < values.length; i++) {
            due("as Words has it", Words.chainDigest(values[i]), digests[i]);
            BorderProofs x = new BorderProofs();
            Words.putChain(x, values[i]);
            due("ROOT", x.about(1), digests[i]);
            due("node(30, 5)", x.node(30, 5), digests[i]);
            // 40 comes above all: what was the root hangs to its left
            x.put(40, 1);
            due("node(30, 5) below 40", x.node(30, 5), digests[i]);
            due("ROOT above it", x.about(1), Words.digest(40, 1, digests[i], 0));
        }
    }

    /** "So it is one, in whatever row they came": all rows of five keys. */
    private static void treeIsOneInWhateverRow() {
        int[] keys = {0, 24, 25, 26, 99};
        int root = Words.with(keys).about(1);
        int rows = 0;
        for (int row = 0; row < 3125; row++) {
            int[] places = {row % 5, row / 5 % 5, row / 25 % 5, row / 125 % 5, row / 625};
            BorderProofs x = new BorderProofs();
            for (int place : places) {
                x.put(keys[place], 1);
            }
            if (x.about(0) == 5) {
                rows++;
                due("ROOT, row " + row, x.about(1), root);
            }
        }
        due("rows", rows, 120);
    }

    /** "at most 512 calls": the last one is answered like the first. */
    private static void the512thCall() {
        BorderProofs x = new BorderProofs();
        for (int call = 1; call < 512; call++) {
            x.put(call % 40, call % 100);
        }
        due("the 512th call", x.put(511 % 40, 0), 511 % 100);
    }
}
