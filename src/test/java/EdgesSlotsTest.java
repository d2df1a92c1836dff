/** Each boundary case that the document names for what is judged, kept and otherwise (promises 25 to 28): a test each. */
public final class EdgesSlotsTest {
    private static final Check CHECK = new Check("EdgesSlotsTest");
    private static final int UNKNOWN = -1, BAD = -2, LATE = -3, FULL = -4, NONE = -9;
    private static final int[] NO_SLOTS = {-1, 2, Integer.MIN_VALUE, Integer.MAX_VALUE};

    public static void main(String[] args) {
        judgeTakesOneToThree();
        judgeTakesRowsOfSoManyFigures();
        judgeRefusesRowsBelowZero();
        judgeTellsTheFirstPlace();
        judgeKinds();
        judgePutLeastAndGreatest();
        judgePutOfThe41st();
        judgeRemovedMustHaveAValue();
        judgeRemovedIsToldWithTwoZeros();
        judgeValues();
        judgeNodesAbove();
        judgeItemsOfNoTree();
        judgeItemsOfAnyNumber();
        judgeItemsOfFortyKeys();
        judgeOneAfterAnother();
        judgeChangesNothing();
        keepTakesZeroAndOne();
        keepOfNoneAndForty();
        keepIsNoDoing();
        keepIsNotChangedByDoings();
        againTakesZeroAndOne();
        againIsLateForEachSlot();
        againOfNoKeys();
        againHasNoDoings();
        againAfterMoreDoingsThanAreRemembered();
        againLeavesTheSlots();
        differTakesZeroToThree();
        differIsLateForEachSlot();
        differOfNoKeys();
        differOfAllKeys();
        differAtTheEnds();
        differByValueZero();
        passedOverTheWhole();
        passedOverNoneIsAbove();
        passedOverInAnotherPlace();
        passedOverOfKeysInBoth();
        passedOverByEachSlot();
        passedOverByTheDigestAlone();
        CHECK.finish();
    }

    private static void due(String call, long got, long want) {
        CHECK.due(call, got, want);
    }

    private static void dueJudged(BorderProofs x, int n, long row, int want) {
        due("judge(" + n + ", " + row + ")", x.judge(n, row), want);
    }

    private static void dueDiffers(String of, BorderProofs x, int slot, int... want) {
        for (int what = 0; what < want.length; what++) {
            due(of + ": differ(" + slot + ", " + what + ")", x.differ(slot, what), want[what]);
        }
    }

    // ---- promise 25

    /** "n doings (1 .. 3)". */
    private static void judgeTakesOneToThree() {
        dueJudged(new BorderProofs(), 1, 10000L, NONE);
        dueJudged(new BorderProofs(), 2, 10000_10000L, NONE);
        dueJudged(new BorderProofs(), 3, 10000_10000_10000L, NONE);
        for (int n : new int[] {0, 4, -1, Integer.MIN_VALUE, Integer.MAX_VALUE}) {
            for (long row : new long[] {0, 1, 10000, 10000_10000_10000L, -1}) {
                dueJudged(new BorderProofs(), n, row, BAD);
            }
        }
    }

    /** "5 n figures at most". */
    private static void judgeTakesRowsOfSoManyFigures() {
        long[] first = {0, 100000L, 10000000000L, 1000000000000000L};
        for (int n = 1; n <= 3; n++) {
            dueJudged(new BorderProofs(), n, first[n] - 1, 0);
            dueJudged(new BorderProofs(), n, first[n], BAD);
            dueJudged(new BorderProofs(), n, first[n] + 10000, BAD);
            dueJudged(new BorderProofs(), n, 10 * first[n], BAD);
            dueJudged(new BorderProofs(), n, Long.MAX_VALUE, BAD);
        }
        dueJudged(new BorderProofs(), 3, 19999_19999_19999L, NONE);
        // more than an int holds, though what is left of it is a row
        dueJudged(new BorderProofs(), 1, (1L << 32) + 10000, BAD);
        dueJudged(new BorderProofs(), 1, (1L << 62) + 10000, BAD);
    }

    /** "0 or more". */
    private static void judgeRefusesRowsBelowZero() {
        for (int n = 1; n <= 3; n++) {
            dueJudged(new BorderProofs(), n, 0, 0);
            dueJudged(new BorderProofs(), n, -1, BAD);
            dueJudged(new BorderProofs(), n, -10000, BAD);
            dueJudged(new BorderProofs(), n, Long.MIN_VALUE, BAD);
        }
    }

    /** "the place of the first that can not be", from 0. */
    private static void judgeTellsTheFirstPlace() {
        BorderProofs x = Words.with(40);
        dueJudged(x, 3, 34000_34000_34000L, 0);
        dueJudged(x, 3, 34001_34000_34000L, 1);
        dueJudged(x, 3, 34001_34001_34000L, 2);
        dueJudged(x, 3, 34001_34001_34001L, NONE);
        dueJudged(x, 2, 34001, 0);
        dueJudged(x, 3, 34001, 0);
    }

    /** The first figure is 1 .. 5: the last row before, the first behind. */
    private static void judgeKinds() {
        BorderProofs x = Words.with(0);
        dueJudged(x, 1, 0, 0);
        dueJudged(x, 1, 9999, 0);
        dueJudged(x, 1, 10000, NONE);
        dueJudged(x, 1, 59903, NONE);
        for (int kind : new int[] {0, 6, 7, 8, 9}) {
            dueJudged(x, 1, 10000L * kind, 0);
            dueJudged(x, 1, 10000L * kind + 1, 0);
            dueJudged(x, 1, 10000L * kind + 3, 0);
            dueJudged(x, 1, 10000L * kind + 9999, 0);
        }
    }

    private static void judgePutLeastAndGreatest() {
        dueJudged(new BorderProofs(), 1, 10000, NONE);
        dueJudged(new BorderProofs(), 1, 10099, NONE);
        dueJudged(new BorderProofs(), 1, 19900, NONE);
        dueJudged(new BorderProofs(), 1, 19999, NONE);
        dueJudged(new BorderProofs(), 2, 10000_30000L, NONE);
        dueJudged(new BorderProofs(), 2, 19999_39999L, NONE);
    }

    /** "PUT of a 41st KEY can not be". */
    private static void judgePutOfThe41st() {
        BorderProofs x = Words.forty(30);
        dueJudged(x, 1, 10000, 0);
        dueJudged(x, 1, 17000, 0);
        dueJudged(x, 1, 19999, 0);
        dueJudged(x, 1, 13000, NONE);
        dueJudged(x, 1, 16999, NONE);
        dueJudged(x, 2, 23000_10000L, NONE);
        dueJudged(x, 3, 23000_10000_13000L, 2);
        x.remove(69);
        dueJudged(x, 1, 10000, NONE);
        dueJudged(x, 2, 10000_10001L, NONE);
        dueJudged(x, 2, 10000_19900L, 1);
        x.remove(68);
        dueJudged(x, 3, 10000_19900_15000L, NONE);
        dueJudged(x, 3, 10000_19900_16800L, 2);
    }

    /** "REMOVED, it must have a VALUE". */
    private static void judgeRemovedMustHaveAValue() {
        BorderProofs x = Words.with(0, 99);
        dueJudged(x, 1, 20000, NONE);
        dueJudged(x, 1, 29900, NONE);
        dueJudged(x, 1, 20100, 0);
        dueJudged(x, 1, 29800, 0);
        dueJudged(x, 2, 20000_20000L, 1);
        dueJudged(x, 3, 20000_10000_20000L, NONE);
        dueJudged(new BorderProofs(), 1, 20000, 0);
        dueJudged(new BorderProofs(), 2, 10000_20000L, NONE);
    }

    /** "two of a KEY, 0, 0": told with other figures it can not be. */
    private static void judgeRemovedIsToldWithTwoZeros() {
        BorderProofs x = Words.with(0, 99);
        for (int last : new int[] {1, 9, 10, 99}) {
            dueJudged(x, 1, 20000 + last, 0);
            dueJudged(x, 1, 29900 + last, 0);
        }
    }

    /** "that is its VALUE": 0 is one, none is none. */
    private static void judgeValues() {
        BorderProofs x = new BorderProofs();
        x.put(0, 0);
        x.put(99, 99);
        dueJudged(x, 1, 30000, NONE);
        dueJudged(x, 1, 30001, 0);
        dueJudged(x, 1, 39999, NONE);
        dueJudged(x, 1, 39998, 0);
        dueJudged(x, 1, 30100, 0);
        dueJudged(x, 2, 20000_30000L, 1);
        // -9 is no value of a key that has none
        dueJudged(x, 1, 30191, 0);
    }

    /** 98 above 99, 40 above both. */
    private static void judgeNodesAbove() {
        BorderProofs x = Words.with(98, 99);
        dueJudged(x, 1, 49800, NONE);
        dueJudged(x, 1, 49801, 0);
        dueJudged(x, 1, 49901, NONE);
        dueJudged(x, 1, 49900, 0);
        dueJudged(x, 1, 49902, 0);
        dueJudged(x, 1, 40000, 0);
        dueJudged(x, 1, 49700, 0);
        dueJudged(x, 1, 49999, 0);
        dueJudged(x, 3, 14000_49801_49902L, NONE);
        dueJudged(x, 2, 29800_49900L, NONE);
        dueJudged(new BorderProofs(), 1, 40000, 0);
        dueJudged(Words.with(0), 1, 40000, NONE);
    }

    private static void judgeItemsOfNoTree() {
        dueJudged(new BorderProofs(), 1, 50001, NONE);
        dueJudged(new BorderProofs(), 1, 59901, NONE);
        dueJudged(new BorderProofs(), 1, 50000, 0);
        dueJudged(new BorderProofs(), 1, 50002, 0);
        dueJudged(Words.with(5), 2, 20500_50001L, NONE);
    }

    /** "the PROOF of that number alone", whether it has a VALUE or has none: 98 above 99. */
    private static void judgeItemsOfAnyNumber() {
        BorderProofs x = Words.with(98, 99);
        dueJudged(x, 1, 50003, NONE);
        dueJudged(x, 1, 59703, NONE);
        dueJudged(x, 1, 59803, NONE);
        dueJudged(x, 1, 59905, NONE);
        dueJudged(x, 1, 59903, 0);
        dueJudged(x, 1, 59904, 0);
        dueJudged(x, 2, 29900_59903L, NONE);
    }

    private static void judgeItemsOfFortyKeys() {
        BorderProofs x = Words.forty(60);
        for (int k = 0; k < 100; k++) {
            int items = x.proof(k, k, 0);
            dueJudged(x, 1, 50000 + 100 * k + items, NONE);
            dueJudged(x, 1, 50000 + 100 * k + items - 2, 0);
            dueJudged(x, 1, 50000 + 100 * k + items + 2, 0);
        }
    }

    /** Each doing is judged by what those before it came to. */
    private static void judgeOneAfterAnother() {
        BorderProofs x = new BorderProofs();
        dueJudged(x, 3, 10005_20000_30005L, 2);
        dueJudged(x, 3, 10005_10006_30006L, NONE);
        dueJudged(x, 3, 10005_10006_30005L, 2);
        dueJudged(x, 3, 14000_10000_40001L, NONE);
        dueJudged(x, 3, 14000_10000_50005L, NONE);
        dueJudged(x, 3, 14000_20000_00000L, 1);
    }

    private static void judgeChangesNothing() {
        BorderProofs x = Words.with(40);
        int root = x.about(1);
        x.keep(0);
        dueJudged(x, 3, 10000_24000_19999L, NONE);
        due("about(0)", x.about(0), 1);
        due("about(1)", x.about(1), root);
        due("about(4)", x.about(4), 1);
        dueDiffers("kept", x, 0, 0, NONE, 1, 1);
        // what one judge did, the next one does not know
        dueJudged(x, 1, 30000, 0);
        dueJudged(x, 1, 34001, NONE);
    }

    // ---- promise 26

    /** "SLOTS 0 .. 1". */
    private static void keepTakesZeroAndOne() {
        due("keep(0)", Words.with(3).keep(0), 1);
        due("keep(1)", Words.with(3).keep(1), 1);
        for (int slot : NO_SLOTS) {
            due("keep(" + slot + ")", Words.with(3).keep(slot), UNKNOWN);
        }
    }

    private static void keepOfNoneAndForty() {
        for (int slot = 0; slot < 2; slot++) {
            due("keep(" + slot + ") of none", new BorderProofs().keep(slot), 0);
            BorderProofs x = Words.forty(60);
            due("keep(" + slot + ") of 40", x.keep(slot), 40);
            x.scatter(20, 1);
            x.remove(99);
            due("again(" + slot + ")", x.again(slot), 40);
            due("ROOT", x.about(1), Words.digestOfAll(60, 99, 1));
            due("it is full", x.put(0, 0), FULL);
        }
    }

    private static void keepIsNoDoing() {
        BorderProofs x = Words.with(3, 4);
        x.keep(0);
        due("about(4)", x.about(4), 2);
        due("undo()", x.undo(), 1);
        due("the put is undone", x.about(0), 1);
        due("what was kept is not", x.again(0), 2);
    }

    private static void keepIsNotChangedByDoings() {
        BorderProofs x = Words.with(3);
        x.keep(0);
        x.put(3, 9);
        x.keep(1);
        x.remove(3);
        x.scatter(20, 2);
        x.undo();
        due("again(0)", x.again(0), 1);
        due("get(3)", x.get(3), 1);
        due("again(1)", x.again(1), 1);
        due("get(3)", x.get(3), 9);
        x.put(4, 4);
        due("keep(0) anew", x.keep(0), 2);
        due("the other slot is as it was", x.again(1), 1);
        due("this one is not", x.again(0), 2);
    }

    // ---- promise 27

    private static void againTakesZeroAndOne() {
        BorderProofs x = Words.with(3);
        x.keep(0);
        x.keep(1);
        due("again(0)", x.again(0), 1);
        due("again(1)", x.again(1), 1);
        for (int slot : NO_SLOTS) {
            due("again(" + slot + ")", x.again(slot), UNKNOWN);
        }
    }

    /** "LATE: none was kept." */
    private static void againIsLateForEachSlot() {
        for (int slot = 0; slot < 2; slot++) {
            BorderProofs x = Words.with(3);
            due("none was kept: again(" + slot + ")", x.again(slot), LATE);
            x.keep(1 - slot);
            due("one was kept in the other: again(" + slot + ")", x.again(slot), LATE);
            due("the doings are left", x.about(4), 1);
            due("the keys are left", x.about(0), 1);
            x.keep(slot);
            due("one was kept: again(" + slot + ")", x.again(slot), 1);
        }
    }

    /** A map without keys can be kept: that is not that none was kept. */
    private static void againOfNoKeys() {
        BorderProofs x = new BorderProofs();
        x.keep(1);
        x.put(0, 0);
        due("again(1)", x.again(1), 0);
        due("about(0)", x.about(0), 0);
        due("about(1)", x.about(1), 0);
        due("about(2)", x.about(2), 0);
        due("get(0)", x.get(0), NONE);
    }

    /** "no DOINGS when one goes on". */
    private static void againHasNoDoings() {
        BorderProofs x = Words.with(3, 4);
        x.keep(0);
        x.put(5, 5);
        x.again(0);
        due("about(4)", x.about(4), 0);
        due("undo()", x.undo(), LATE);
        due("about(0)", x.about(0), 2);
        x.put(6, 6);
        due("about(4)", x.about(4), 1);
        due("undo()", x.undo(), 0);
        due("undo()", x.undo(), LATE);
        due("about(0)", x.about(0), 2);
    }

    private static void againAfterMoreDoingsThanAreRemembered() {
        BorderProofs x = new BorderProofs();
        for (int value = 0; value < 21; value++) {
            x.put(7, value);
        }
        x.keep(0);
        x.again(0);
        for (int value = 30; value < 45; value++) {
            x.put(7, value);
        }
        due("about(4)", x.about(4), 14);
        for (int left = 13; left >= 0; left--) {
            due("undo()", x.undo(), left);
            due("get(7)", x.get(7), 30 + left);
        }
        due("undo()", x.undo(), LATE);
    }

    private static void againLeavesTheSlots() {
        BorderProofs x = Words.with(3);
        x.keep(0);
        x.again(0);
        x.put(4, 4);
        due("again(0) once more", x.again(0), 1);
        due("get(4)", x.get(4), NONE);
        due("the other one is not kept by it", x.again(1), LATE);
    }

    // ---- promise 28

    private static void differTakesZeroToThree() {
        BorderProofs x = Words.with(3);
        x.keep(0);
        x.keep(1);
        dueDiffers("alike", x, 0, 0, NONE, 1, 1);
        dueDiffers("alike", x, 1, 0, NONE, 1, 1);
        for (int slot : NO_SLOTS) {
            for (int what = 0; what < 4; what++) {
                due("differ(" + slot + ", " + what + ")", x.differ(slot, what), UNKNOWN);
            }
        }
        for (int what : new int[] {-1, 4, Integer.MIN_VALUE, Integer.MAX_VALUE}) {
            due("differ(0, " + what + ")", x.differ(0, what), BAD);
            due("differ(1, " + what + ")", x.differ(1, what), BAD);
        }
    }

    private static void differIsLateForEachSlot() {
        for (int slot = 0; slot < 2; slot++) {
            BorderProofs x = Words.with(3);
            x.keep(1 - slot);
            for (int what = 0; what < 4; what++) {
                due("one was kept in the other: differ(" + slot + ", " + what + ")", x.differ(slot, what), LATE);
            }
        }
    }

    private static void differOfNoKeys() {
        BorderProofs x = new BorderProofs();
        x.keep(0);
        dueDiffers("none, none", x, 0, 0, NONE, 0, 0);
        x.put(0, 0);
        dueDiffers("0, none", x, 0, 1, 0, 0, 0);
        x.keep(1);
        x.undo();
        dueDiffers("none, 0", x, 1, 1, 0, 0, 0);
    }

    private static void differOfAllKeys() {
        BorderProofs x = Words.forty(0);
        x.keep(0);
        for (int key = 0; key < 40; key++) {
            x.remove(key);
        }
        dueDiffers("none, 40", x, 0, 40, 0, 0, 0);
        for (int key = 60; key < 100; key++) {
            x.put(key, 1);
        }
        dueDiffers("40, 40 others", x, 0, 80, 0, 0, 0);
        x.keep(1);
        for (int key = 60; key < 100; key++) {
            x.put(key, 2);
        }
        dueDiffers("40 with other values", x, 1, 40, 60, 0, 0);
    }

    /** "the least (1; NONE)": 99, then 0. */
    private static void differAtTheEnds() {
        BorderProofs x = Words.with(0, 50, 99);
        x.keep(0);
        x.put(99, 2);
        dueDiffers("99 is otherwise", x, 0, 1, 99);
        x.remove(99);
        dueDiffers("99 is in one alone", x, 0, 1, 99);
        x.remove(0);
        dueDiffers("0 is, too", x, 0, 2, 0);
        x.put(0, 1);
        x.put(99, 1);
        dueDiffers("none is", x, 0, 0, NONE);
    }

    /** A key with the value 0 is not as one that has none. */
    private static void differByValueZero() {
        BorderProofs x = Words.with(50);
        x.keep(0);
        x.put(0, 0);
        dueDiffers("0 with 0", x, 0, 1, 0, 1, 1);
        x.keep(0);
        x.remove(0);
        dueDiffers("0 with none", x, 0, 1, 0);
    }

    private static void passedOverTheWhole() {
        BorderProofs x = Words.forty(60);
        x.keep(0);
        due("the first that is asked", x.differ(0, 3), 40);
        dueDiffers("40 alike", x, 0, 0, NONE, 1, 40);
        BorderProofs y = Words.with(0);
        y.keep(1);
        dueDiffers("0 alone", y, 1, 0, NONE, 1, 1);
    }

    /** "none of whose NODES above them in THE TREE has": 40 above 30 (above 29) and 45 (above 42). */
    private static void passedOverNoneIsAbove() {
        BorderProofs x = Words.with(29, 30, 40, 42, 45);
        x.keep(0);
        x.put(40, 2);
        dueDiffers("the root is otherwise", x, 0, 1, 40, 2, 4);
        x.put(30, 2);
        dueDiffers("30, too", x, 0, 2, 30, 2, 3);
        x.put(42, 2);
        dueDiffers("42, too: 45 has another digest", x, 0, 3, 30, 1, 1);
        x.put(29, 2);
        dueDiffers("all but 45", x, 0, 4, 29, 0, 0);
    }

    /** The nodes of a key are compared wherever they hang. */
    private static void passedOverInAnotherPlace() {
        BorderProofs x = Words.with(29, 30, 42, 45);
        x.keep(0);
        // 40 comes above all; 45 hung on 30
        x.put(40, 1);
        dueDiffers("45 hangs elsewhere", x, 0, 1, 40, 2, 3);
        x.keep(1);
        x.remove(40);
        dueDiffers("the other way round", x, 1, 1, 40, 2, 3);
    }

    private static void passedOverOfKeysInBoth() {
        BorderProofs x = new BorderProofs();
        x.keep(0);
        x.put(40, 1);
        x.keep(1);
        due("slot 1 has it", x.differ(1, 2), 1);
        due("slot 0 has it not, though slot 1 was asked before", x.differ(0, 2), 0);
        due("nor its nodes", x.differ(0, 3), 0);
        x.judge(2, 10001_50003L);
        due("nor though it was judged before", x.differ(0, 2), 0);
        x.undo();
        due("nor if the map has it no more", x.differ(1, 2), 0);
        due("nor its nodes", x.differ(1, 3), 0);
    }

    private static void passedOverByEachSlot() {
        BorderProofs x = Words.with(30, 40, 45);
        x.keep(0);
        x.put(30, 2);
        x.keep(1);
        x.put(45, 2);
        dueDiffers("30 and 45 are otherwise", x, 0, 2, 30, 0, 0);
        dueDiffers("45 is", x, 1, 1, 45, 1, 1);
        due("the other slot's nodes first", x.differ(0, 3), 0);
        due("then this one's", x.differ(1, 3), 1);
    }

    /** "the same DIGEST in both TREES": also where keys are otherwise; all values but that of 23 are. */
    private static void passedOverByTheDigestAlone() {
        BorderProofs x = new BorderProofs();
        x.keep(1);
        Words.putChain(x, Words.LEAST_DIGEST);
        dueDiffers("a digest of 1 is not that of no tree", x, 1, 6, 19, 0, 0);
        x.keep(0);
        Words.putChain(x, Words.LEAST_DIGEST_TOO);
        dueDiffers("unlike trees of one digest", x, 0, 5, 19, 1, 6);
        x.put(40, 1);
        dueDiffers("below another one", x, 0, 6, 19, 1, 6);
        x.put(23, 1);
        dueDiffers("unlike digests", x, 0, 7, 19, 0, 0);
    }
}
