/** Promises 25 to 28: doings that are judged, slots, what is otherwise. */
public final class JudgeSlotsTest {
    private static final Check CHECK = new Check("JudgeSlotsTest");
    private static final int UNKNOWN = -1, BAD = -2, LATE = -3, NONE = -9;
    private static final int[] NO_SLOTS = {-1, 2, Integer.MIN_VALUE, Integer.MAX_VALUE};

    public static void main(String[] args) {
        judgeEachKind();
        judgeRows();
        judgeFull();
        judgeBad();
        keep();
        again();
        differ();
        differPassedOver();
        CHECK.finish();
    }

    private static void due(String call, long got, long want) {
        CHECK.due(call, got, want);
    }

    private static void dueJudged(BorderProofs x, int n, long row, int want) {
        due("judge(" + n + ", " + row + ")", x.judge(n, row), want);
    }

    /** 40 above (30 above 29) and (45 above 42), as MapTest says. */
    private static void judgeEachKind() {
        BorderProofs x = MapTest.five();
        dueJudged(x, 1, 14099, NONE);
        dueJudged(x, 1, 10000, NONE);
        dueJudged(x, 1, 24000, NONE);
        dueJudged(x, 1, 24001, 0);
        dueJudged(x, 1, 24010, 0);
        dueJudged(x, 1, 24100, 0);
        dueJudged(x, 1, 34205, NONE);
        dueJudged(x, 1, 34204, 0);
        dueJudged(x, 1, 34100, 0);
        dueJudged(x, 1, 44000, NONE);
        dueJudged(x, 1, 42902, NONE);
        dueJudged(x, 1, 42901, 0);
        dueJudged(x, 1, 44102, 0);
        dueJudged(x, 1, 44100, 0);
        dueJudged(x, 1, 54003, NONE);
        dueJudged(x, 1, 54005, 0);
        dueJudged(x, 1, 54107, NONE);
        dueJudged(x, 1, 59905, NONE);
        dueJudged(x, 1, 50000, 0);
        for (long kind : new long[] {0, 6, 7, 8, 9}) {
            dueJudged(x, 1, 10000 * kind + 4001, 0);
        }
        dueJudged(new BorderProofs(), 1, 50001, NONE);
        dueJudged(new BorderProofs(), 1, 40000, 0);
    }

    private static void judgeRows() {
        BorderProofs x = MapTest.five();
        int root = x.about(1);
        dueJudged(x, 2, 24000_34001L, 1);
        dueJudged(x, 2, 34001_24000L, NONE);
        dueJudged(x, 2, 24000_24000L, 1);
        dueJudged(x, 3, 24000_14007_34007L, NONE);
        dueJudged(x, 3, 24000_43000_44501L, NONE);
        dueJudged(x, 3, 24000_43000_44500L, 2);
        dueJudged(x, 3, 14100_54205_34100L, 1);
        dueJudged(x, 3, 14100_54209_34100L, NONE);
        dueJudged(x, 3, 24100_00000_00000L, 0);
        dueJudged(x, 2, 14001, 0);
        dueJudged(x, 3, 34001_34205L, 0);
        due("the map is as it was", x.about(1), root);
        due("none is a doing", x.about(4), 5);
    }

    private static void judgeFull() {
        BorderProofs x = MapTest.full();
        dueJudged(x, 1, 14000, 0);
        dueJudged(x, 1, 13900, NONE);
        dueJudged(x, 2, 20000_14000L, NONE);
        dueJudged(x, 3, 20000_14000_14100L, 2);
        x.remove(0);
        dueJudged(x, 2, 14000_14001L, NONE);
        dueJudged(x, 2, 14000_14100L, 1);
    }

    private static void judgeBad() {
        BorderProofs x = MapTest.five();
        for (int n : new int[] {0, 4, -1, Integer.MIN_VALUE, Integer.MAX_VALUE}) {
            dueJudged(x, n, 34001, BAD);
        }
        dueJudged(x, 1, 0, 0);
        dueJudged(x, 3, 0, 0);
        dueJudged(x, 1, -1, BAD);
        dueJudged(x, 3, -1, BAD);
        dueJudged(x, 1, Long.MIN_VALUE, BAD);
        dueJudged(x, 1, 100000, BAD);
        dueJudged(x, 1, 99999, 0);
        dueJudged(x, 2, 10000000000L, BAD);
        dueJudged(x, 2, 9999999999L, 0);
        dueJudged(x, 3, 1000000000000000L, BAD);
        dueJudged(x, 3, 999999999999999L, 0);
        dueJudged(x, 3, Long.MAX_VALUE, BAD);
    }

    private static void keep() {
        BorderProofs x = MapTest.five();
        for (int slot : NO_SLOTS) {
            due("keep(" + slot + ")", x.keep(slot), UNKNOWN);
        }
        due("keep(1)", x.keep(1), 5);
        due("keep is no doing", x.about(4), 5);
        x.remove(40);
        due("keep(0)", x.keep(0), 4);
        due("again(1)", x.again(1), 5);
        due("again(0)", x.again(0), 4);
        due("keep(1) anew", x.keep(1), 4);
        due("again(1)", x.again(1), 4);
        due("keep(0) of none", new BorderProofs().keep(0), 0);
    }

    private static void again() {
        BorderProofs x = MapTest.five();
        int root = x.about(1);
        due("none was kept", x.again(0), LATE);
        due("so the doings are left", x.about(4), 5);
        x.keep(0);
        due("nor in the other slot", x.again(1), LATE);
        for (int slot : NO_SLOTS) {
            due("again(" + slot + ")", x.again(slot), UNKNOWN);
        }
        x.put(1, 1);
        x.remove(40);
        x.trust();
        x.send(0, 99);
        int trusted = x.about(6);
        due("again(0)", x.again(0), 5);
        due("ROOT", x.about(1), root);
        due("no doings", x.about(4), 0);
        due("undo()", x.undo(), LATE);
        due("the reader is not changed: its row", x.about(5), 11);
        due("what it trusts", x.about(6), trusted);
        due("its row is fine", x.read(0, 99), 0);
        x.put(40, 9);
        due("a doing of its own", x.about(4), 1);
        due("what was kept is not changed by it", x.again(0), 5);
        due("get(40)", x.get(40), 1);
    }

    private static void differ() {
        BorderProofs x = MapTest.five();
        for (int slot : NO_SLOTS) {
            due("differ(" + slot + ", 0)", x.differ(slot, 0), UNKNOWN);
            due("UNKNOWN is told before BAD", x.differ(slot, 4), UNKNOWN);
        }
        due("none was kept", x.differ(0, 0), LATE);
        due("LATE is told before BAD", x.differ(0, 4), LATE);
        x.keep(0);
        due("differ(0, 4)", x.differ(0, 4), BAD);
        due("differ(0, -1)", x.differ(0, -1), BAD);
        due("the same map", x.differ(0, 0), 0);
        due("the least of none", x.differ(0, 1), NONE);
        due("the root is passed over", x.differ(0, 2), 1);
        due("with all nodes", x.differ(0, 3), 5);
        x.put(42, 0);
        x.remove(29);
        x.put(99, 0);
        due("another value, in one alone, in the other alone", x.differ(0, 0), 3);
        due("the least", x.differ(0, 1), 29);
        x.keep(1);
        due("each slot has its own", x.differ(1, 0), 0);
        x.again(0);
        due("the other way round", x.differ(1, 0), 3);
    }

    private static void differPassedOver() {
        BorderProofs x = MapTest.five();
        x.keep(0);
        x.put(42, 0);
        due("30 with 29 is passed over", x.differ(0, 2), 1);
        due("two nodes", x.differ(0, 3), 2);
        x.put(29, 0);
        due("none is", x.differ(0, 2), 0);
        due("no nodes", x.differ(0, 3), 0);
        x.undo();
        x.undo();
        x.put(40, 0);
        due("30 and 45 are", x.differ(0, 2), 2);
        due("four nodes", x.differ(0, 3), 4);
        x.remove(40);
        // 30 has 29 and 45 then: 29 and 45 are alike, at other places than before
        due("29 and 45 are", x.differ(0, 2), 2);
        due("three nodes", x.differ(0, 3), 3);
        x.keep(1);
        x.judge(1, 50000);
        due("what was judged is not what was kept", x.differ(1, 3), 4);
        BorderProofs none = new BorderProofs();
        none.keep(0);
        due("none in both: otherwise", none.differ(0, 0), 0);
        due("none in both: passed over", none.differ(0, 2), 0);
        due("none in both: nodes", none.differ(0, 3), 0);
        none.put(0, 3);
        due("one in one alone", none.differ(0, 0), 1);
        due("the least", none.differ(0, 1), 0);
        due("is not passed over", none.differ(0, 2), 0);
        none.keep(0);
        due("in both it is", none.differ(0, 2), 1);
        due("one node", none.differ(0, 3), 1);
    }
}
