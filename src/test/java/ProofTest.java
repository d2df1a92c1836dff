/** Promises 10 to 12: proofs, their items, their lengths. */
public final class ProofTest {
    private static final Check CHECK = new Check("ProofTest");
    private static final int UNKNOWN = -1, BAD = -2, NONE = -9;
    /** Wrong ranges. */
    static final int[][] NO_RANGES = {{-1, 5}, {5, 100}, {6, 5}, {100, 100}, {-2, -1}, {99, 0},
        {Integer.MIN_VALUE, Integer.MAX_VALUE}, {0, Integer.MAX_VALUE}, {Integer.MIN_VALUE, 0}};

    public static void main(String[] args) {
        proof();
        proofOfNone();
        item();
        itemsByBorders();
        lengths();
        CHECK.finish();
    }

    private static void due(String call, long got, long want) {
        CHECK.due(call, got, want);
    }

    /** 40 above (30 above 29) and (45 above 42), as MapTest says. */
    private static void proof() {
        BorderProofs x = MapTest.five();
        int[][] due = {
            // a, b, items, digests, nodes
            {0, 99, 11, 0, 5},
            {40, 40, 3, 2, 1},
            {39, 40, 5, 2, 2},
            {40, 41, 7, 1, 3},
            {39, 41, 9, 1, 4},
            {30, 30, 5, 2, 2},
            {29, 29, 7, 1, 3},
            {0, 0, 7, 1, 3},
            {99, 99, 5, 2, 2},
            {45, 45, 5, 2, 2},
            {44, 44, 7, 1, 3},
            {41, 44, 7, 1, 3},
        };
        for (int[] of : due) {
            for (int what = 0; what < 3; what++) {
                due("proof(" + of[0] + ", " + of[1] + ", " + what + ")", x.proof(of[0], of[1], what), of[2 + what]);
            }
        }
        for (int[] of : NO_RANGES) {
            due("proof(" + of[0] + ", " + of[1] + ", 0)", x.proof(of[0], of[1], 0), BAD);
        }
        due("proof(0, 99, 3)", x.proof(0, 99, 3), BAD);
        due("proof(0, 99, -1)", x.proof(0, 99, -1), BAD);
        due("the reader gets none of it", x.about(5), 0);
        due("40 keys", MapTest.full().proof(0, 99, 0), 81);
    }

    private static void proofOfNone() {
        BorderProofs x = new BorderProofs();
        due("items", x.proof(3, 4, 0), 1);
        due("digests", x.proof(3, 4, 1), 0);
        due("nodes", x.proof(3, 4, 2), 0);
        due("item", x.item(3, 4, 0), 0);
    }

    private static void item() {
        BorderProofs x = MapTest.five();
        int[] due = {-100 - 4001, x.node(30, 5), -100 - 4504, -100 - 4205, 0, 0, 0};
        for (int place = 0; place < due.length; place++) {
            due("item(41, 43, " + place + ")", x.item(41, 43, place), due[place]);
        }
        due("item(41, 43, 7)", x.item(41, 43, 7), UNKNOWN);
        due("item(41, 43, -1)", x.item(41, 43, -1), UNKNOWN);
        due("item(41, 43, least)", x.item(41, 43, Integer.MIN_VALUE), UNKNOWN);
        due("item(41, 43, most)", x.item(41, 43, Integer.MAX_VALUE), UNKNOWN);
        for (int[] of : NO_RANGES) {
            due("item(" + of[0] + ", " + of[1] + ", 0)", x.item(of[0], of[1], 0), BAD);
        }
        due("BAD is told before UNKNOWN", x.item(5, 4, -1), BAD);
        BorderProofs ends = new BorderProofs();
        ends.put(0, 0);
        due("the first node item", ends.item(0, 0, 0), -100);
        ends.remove(0);
        ends.put(99, 99);
        due("the last node item", ends.item(0, 0, 0), -10099);
    }

    /** A node is hidden by its borders, not by its key or those of its tree. */
    private static void itemsByBorders() {
        BorderProofs x = new BorderProofs();
        x.put(40, 1);
        x.put(50, 2);
        due("41 is in the borders of 50, which is shown", x.item(41, 41, 2), -100 - 5002);
        due("40 is not", x.item(40, 40, 2), x.node(50, 5));
    }

    private static void lengths() {
        BorderProofs x = MapTest.five();
        // 40: 3 items; 30 .. 39 and 45 .. 99: 5; 0 .. 29 and 41 .. 44: 7
        due("lengths(3, 0)", x.lengths(3, 0), 1);
        due("lengths(3, 1)", x.lengths(3, 1), 40);
        due("lengths(5, 0)", x.lengths(5, 0), 65);
        due("lengths(5, 1)", x.lengths(5, 1), 30);
        due("lengths(7, 0)", x.lengths(7, 0), 34);
        due("lengths(7, 1)", x.lengths(7, 1), 0);
        for (int n : new int[] {0, 1, 2, 4, 9, -1, 101, Integer.MIN_VALUE, Integer.MAX_VALUE}) {
            due("lengths(" + n + ", 0)", x.lengths(n, 0), 0);
            due("lengths(" + n + ", 1)", x.lengths(n, 1), NONE);
        }
        due("lengths(3, 2)", x.lengths(3, 2), BAD);
        due("lengths(3, -1)", x.lengths(3, -1), BAD);
        due("lengths(1, 0) of none", new BorderProofs().lengths(1, 0), 100);
    }
}
