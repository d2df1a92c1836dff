import java.util.ArrayList;
import java.util.List;

/**
 * Part 3: "Of several what is told first. What is refused changes nothing." Each refused call is made on one of two
 * objects with the same calls behind them; then both are asked for all that can be asked.
 */
public final class RefusalsTest {
    private static final Check CHECK = new Check("RefusalsTest");
    private static final int UNKNOWN = -1, BAD = -2, LATE = -3, FULL = -4, NONE = -9;
    private static final int LEAST = Integer.MIN_VALUE, MOST = Integer.MAX_VALUE;
    private static final int[] NO_NUMBERS = {-1, 100, LEAST, MOST};
    private static final int[] NO_ITEMS = {-1, -99, -10100, LEAST};

    private interface Made {
        BorderProofs now();
    }

    private interface Call {
        int on(BorderProofs x);
    }

    public static void main(String[] args) {
        for (Made made : new Made[] {BorderProofs::new, RefusalsTest::some, RefusalsTest::most}) {
            badNumbers(made);
            badRanges(made);
            badWhats(made);
            badOthers(made);
            unknownSlotsAndPlaces(made);
        }
        ofANewObject();
        ofSome();
        ofTheMost();
        bothAreToldFirst();
        askingChangesNothing();
        oneMoreIsNotTheSame();
        CHECK.finish();
    }

    // ---- the objects

    /** Four keys, one kept map, a fine row that hides 41 .. 99, two former digests, five doings: nothing full. */
    private static BorderProofs some() {
        BorderProofs x = Words.with(24, 26, 40, 45);
        x.keep(0);
        x.put(24, 7);
        x.believe(5);
        x.trust();
        x.send(25, 25);
        return x;
    }

    /** 40 keys, 14 doings, both slots, 100 items, 8 former digests. */
    private static BorderProofs most() {
        BorderProofs x = Words.forty(0);
        x.keep(0);
        x.put(39, 9);
        x.keep(1);
        x.put(38, 8);
        for (int digest = 1; digest <= 9; digest++) {
            x.believe(digest);
        }
        for (int many = 1; many <= 100; many++) {
            x.tell(many);
        }
        return x;
    }

    /** All that can be asked, what changes the object last: some 280 calls. */
    private static List<Integer> whole(BorderProofs x) {
        List<Integer> answers = new ArrayList<>();
        for (int what = 0; what < 8; what++) {
            answers.add(x.about(what));
        }
        for (int key = 0; key < 100; key++) {
            answers.add(x.get(key));
        }
        for (int place = 0; place <= 8; place++) {
            answers.add(x.former(place));
        }
        for (int slot = 0; slot < 2; slot++) {
            for (int what = 0; what < 4; what++) {
                answers.add(x.differ(slot, what));
            }
        }
        answers.add(x.read(25, 25));
        int items = x.about(5);
        for (int place = 0; place < items; place++) {
            answers.add(x.alter(place, 0));
        }
        for (int left = x.undo(); left >= 0; left = x.undo()) {
            answers.add(left);
            answers.add(x.about(1));
        }
        for (int slot = 0; slot < 2; slot++) {
            answers.add(x.again(slot));
            answers.add(x.about(1));
        }
        return answers;
    }

    private static void dueNothing(String call, Made made, BorderProofs asked) {
        List<Integer> is = whole(asked);
        List<Integer> was = whole(made.now());
        CHECK.due(call + " changes nothing", is.equals(was) ? 1 : 0, 1);
    }

    private static void refused(Made made, String call, int want, Call how) {
        BorderProofs asked = made.now();
        CHECK.due(call, how.on(asked), want);
        dueNothing(call, made, asked);
    }

    // ---- BAD, in whatever state

    private static void badNumbers(Made made) {
        for (int no : NO_NUMBERS) {
            refused(made, "put(" + no + ", 0)", BAD, x -> x.put(no, 0));
            refused(made, "put(24, " + no + ")", BAD, x -> x.put(24, no));
            refused(made, "put(99, " + no + ")", BAD, x -> x.put(99, no));
            refused(made, "remove(" + no + ")", BAD, x -> x.remove(no));
            refused(made, "get(" + no + ")", BAD, x -> x.get(no));
            refused(made, "rank(" + no + ")", BAD, x -> x.rank(no));
            refused(made, "step(" + no + ", 0)", BAD, x -> x.step(no, 0));
            refused(made, "step(25, " + no + ")", BAD, x -> x.step(25, no));
            refused(made, "follow(" + no + ", 0)", BAD, x -> x.follow(no, 0));
            refused(made, "follow(" + no + ", NONE)", BAD, x -> x.follow(no, NONE));
            refused(made, "follow(25, " + no + ")", BAD, x -> x.follow(25, no));
        }
    }

    private static void badRanges(Made made) {
        for (int[] range : EdgesProofTest.NO_RANGES) {
            int a = range[0];
            int b = range[1];
            String told = "(" + a + ", " + b;
            refused(made, "proof" + told + ", 0)", BAD, x -> x.proof(a, b, 0));
            refused(made, "item" + told + ", 0)", BAD, x -> x.item(a, b, 0));
            refused(made, "send" + told + ")", BAD, x -> x.send(a, b));
            refused(made, "read" + told + ")", BAD, x -> x.read(a, b));
            refused(made, "learnt" + told + ", 0)", BAD, x -> x.learnt(a, b, 0));
            refused(made, "found" + told + ", 0)", BAD, x -> x.found(a, b, 0));
        }
    }

    private static void badWhats(Made made) {
        refused(made, "about(-1)", BAD, x -> x.about(-1));
        refused(made, "about(8)", BAD, x -> x.about(8));
        refused(made, "proof(0, 99, -1)", BAD, x -> x.proof(0, 99, -1));
        refused(made, "proof(0, 99, 3)", BAD, x -> x.proof(0, 99, 3));
        refused(made, "lengths(1, -1)", BAD, x -> x.lengths(1, -1));
        refused(made, "lengths(1, 2)", BAD, x -> x.lengths(1, 2));
        refused(made, "learnt(25, 25, -1)", BAD, x -> x.learnt(25, 25, -1));
        refused(made, "learnt(25, 25, 5)", BAD, x -> x.learnt(25, 25, 5));
    }

    private static void badOthers(Made made) {
        for (int n : new int[] {0, 21, -1, LEAST, MOST}) {
            refused(made, "scatter(" + n + ", 1)", BAD, x -> x.scatter(n, 1));
        }
        for (int item : NO_ITEMS) {
            refused(made, "tell(" + item + ")", BAD, x -> x.tell(item));
        }
        for (int n : new int[] {-1, 101, LEAST, MOST}) {
            refused(made, "cut(" + n + ")", BAD, x -> x.cut(n));
        }
        for (int digest : new int[] {-1, NONE, LEAST}) {
            refused(made, "believe(" + digest + ")", BAD, x -> x.believe(digest));
        }
        for (int n : new int[] {0, 4, -1, LEAST, MOST}) {
            refused(made, "judge(" + n + ", 10000)", BAD, x -> x.judge(n, 10000));
        }
        for (long row : new long[] {-1, 100000, Long.MIN_VALUE, Long.MAX_VALUE}) {
            refused(made, "judge(1, " + row + ")", BAD, x -> x.judge(1, row));
        }
    }

    private static void unknownSlotsAndPlaces(Made made) {
        for (int slot : new int[] {-1, 2, LEAST, MOST}) {
            refused(made, "keep(" + slot + ")", UNKNOWN, x -> x.keep(slot));
            refused(made, "again(" + slot + ")", UNKNOWN, x -> x.again(slot));
            refused(made, "differ(" + slot + ", 0)", UNKNOWN, x -> x.differ(slot, 0));
        }
        for (int place : new int[] {-1, 100, LEAST, MOST}) {
            refused(made, "item(0, 99, " + place + ")", UNKNOWN, x -> x.item(0, 99, place));
            refused(made, "alter(" + place + ", 0)", UNKNOWN, x -> x.alter(place, 0));
            refused(made, "former(" + place + ")", UNKNOWN, x -> x.former(place));
            refused(made, "node(" + place + ", 0)", UNKNOWN, x -> x.node(place, 0));
        }
    }

    // ---- what is refused in one state alone

    private static void ofANewObject() {
        Made made = BorderProofs::new;
        refused(made, "new remove(0)", UNKNOWN, x -> x.remove(0));
        refused(made, "new node(0, 0)", UNKNOWN, x -> x.node(0, 0));
        refused(made, "new undo()", LATE, BorderProofs::undo);
        refused(made, "new again(0)", LATE, x -> x.again(0));
        refused(made, "new again(1)", LATE, x -> x.again(1));
        refused(made, "new differ(0, 0)", LATE, x -> x.differ(0, 0));
        refused(made, "new differ(1, 3)", LATE, x -> x.differ(1, 3));
        refused(made, "new alter(0, 0)", UNKNOWN, x -> x.alter(0, 0));
        refused(made, "new cut(1)", BAD, x -> x.cut(1));
        refused(made, "new former(0)", UNKNOWN, x -> x.former(0));
        refused(made, "new item(0, 99, 1)", UNKNOWN, x -> x.item(0, 99, 1));
        refused(made, "new learnt(0, 99, 0)", LATE, x -> x.learnt(0, 99, 0));
        refused(made, "new found(0, 99, 0)", LATE, x -> x.found(0, 99, 0));
        refused(made, "new step(0, 0)", LATE, x -> x.step(0, 0));
        refused(made, "new follow(0, 0)", LATE, x -> x.follow(0, 0));
        Made fine = () -> Words.told(0);
        refused(fine, "step(0, NONE) by no tree", UNKNOWN, x -> x.step(0, NONE));
        refused(fine, "follow(99, NONE) by no tree", UNKNOWN, x -> x.follow(99, NONE));
    }

    private static void ofSome() {
        Made made = RefusalsTest::some;
        refused(made, "remove(25)", UNKNOWN, x -> x.remove(25));
        refused(made, "node(25, 0)", UNKNOWN, x -> x.node(25, 0));
        refused(made, "node(24, -1)", BAD, x -> x.node(24, -1));
        refused(made, "node(24, 8)", BAD, x -> x.node(24, 8));
        refused(made, "item(25, 25, 7)", UNKNOWN, x -> x.item(25, 25, 7));
        refused(made, "alter(7, 0)", UNKNOWN, x -> x.alter(7, 0));
        refused(made, "cut(8)", BAD, x -> x.cut(8));
        for (int item : NO_ITEMS) {
            refused(made, "alter(0, " + item + ")", BAD, x -> x.alter(0, item));
        }
        refused(made, "former(2)", UNKNOWN, x -> x.former(2));
        refused(made, "again(1)", LATE, x -> x.again(1));
        refused(made, "differ(1, 0)", LATE, x -> x.differ(1, 0));
        refused(made, "differ(0, -1)", BAD, x -> x.differ(0, -1));
        refused(made, "differ(0, 4)", BAD, x -> x.differ(0, 4));
        refused(made, "learnt(50, 50, 0)", LATE, x -> x.learnt(50, 50, 0));
        refused(made, "found(50, 50, 0)", LATE, x -> x.found(50, 50, 0));
        refused(made, "step(50, 0)", LATE, x -> x.step(50, 0));
        refused(made, "follow(50, NONE)", LATE, x -> x.follow(50, NONE));
        refused(made, "step(25, NONE)", UNKNOWN, x -> x.step(25, NONE));
        refused(made, "follow(25, NONE)", UNKNOWN, x -> x.follow(25, NONE));
    }

    private static void ofTheMost() {
        Made made = RefusalsTest::most;
        refused(made, "put(40, 0) of a 41st", FULL, x -> x.put(40, 0));
        refused(made, "put(99, 99) of a 41st", FULL, x -> x.put(99, 99));
        refused(made, "tell(0) of a 101st", FULL, x -> x.tell(0));
        refused(made, "tell(-10099) of a 101st", FULL, x -> x.tell(-10099));
        refused(made, "cut(101)", BAD, x -> x.cut(101));
        refused(made, "alter(100, 0)", UNKNOWN, x -> x.alter(100, 0));
        refused(made, "former(8)", UNKNOWN, x -> x.former(8));
        refused(made, "item(0, 99, 81)", UNKNOWN, x -> x.item(0, 99, 81));
        refused(made, "remove(40)", UNKNOWN, x -> x.remove(40));
        refused(made, "differ(1, 4)", BAD, x -> x.differ(1, 4));
        refused(made, "follow(0, 0)", LATE, x -> x.follow(0, 0));
    }

    // ---- "Of several what is told first."

    /** Two reasons each, and the one that the promise tells first. */
    private static void bothAreToldFirst() {
        Made none = BorderProofs::new;
        Made some = RefusalsTest::some;
        Made most = RefusalsTest::most;
        refused(most, "put: BAD key, then FULL", BAD, x -> x.put(100, 0));
        refused(most, "put: BAD value, then FULL", BAD, x -> x.put(40, 100));
        refused(none, "remove: BAD, then UNKNOWN", BAD, x -> x.remove(-1));
        refused(some, "node: UNKNOWN, then BAD", UNKNOWN, x -> x.node(25, 8));
        refused(some, "node: UNKNOWN, then BAD, of no number", UNKNOWN, x -> x.node(100, -1));
        refused(some, "item: BAD, then UNKNOWN", BAD, x -> x.item(1, 0, -1));
        refused(most, "tell: BAD, then FULL", BAD, x -> x.tell(-99));
        refused(some, "alter: UNKNOWN, then BAD", UNKNOWN, x -> x.alter(7, -1));
        refused(none, "alter: UNKNOWN, then BAD, of none", UNKNOWN, x -> x.alter(0, -10100));
        refused(none, "learnt: BAD range, then LATE", BAD, x -> x.learnt(1, 0, 0));
        refused(none, "learnt: BAD what, then LATE", BAD, x -> x.learnt(0, 99, 5));
        refused(none, "found: BAD, then LATE", BAD, x -> x.found(0, 100, 0));
        refused(none, "found: LATE, then NONE", LATE, x -> x.found(0, 99, -1));
        refused(none, "step: BAD key, then LATE", BAD, x -> x.step(100, 0));
        refused(none, "step: BAD value, then LATE", BAD, x -> x.step(0, 100));
        refused(none, "step: LATE, then UNKNOWN", LATE, x -> x.step(0, NONE));
        refused(some, "step: BAD, then UNKNOWN", BAD, x -> x.step(-1, NONE));
        refused(none, "follow: BAD key, then LATE", BAD, x -> x.follow(-1, 0));
        refused(none, "follow: BAD value, then LATE", BAD, x -> x.follow(0, -1));
        refused(none, "follow: LATE, then UNKNOWN", LATE, x -> x.follow(0, NONE));
        refused(some, "follow: BAD, then UNKNOWN", BAD, x -> x.follow(100, NONE));
        refused(none, "again: UNKNOWN, then LATE", UNKNOWN, x -> x.again(2));
        refused(none, "differ: UNKNOWN, then LATE", UNKNOWN, x -> x.differ(2, 0));
        refused(none, "differ: UNKNOWN, then LATE, BAD", UNKNOWN, x -> x.differ(-1, 4));
        refused(most, "differ: UNKNOWN, then BAD", UNKNOWN, x -> x.differ(2, -1));
        refused(none, "differ: LATE, then BAD", LATE, x -> x.differ(0, 4));
        refused(some, "differ: LATE, then BAD, of the other slot", LATE, x -> x.differ(1, -1));
    }

    // ---- what is only asked

    private static void asked(Made made, String call, Call how) {
        BorderProofs asked = made.now();
        CHECK.due(call + " is not refused", how.on(asked) == BAD ? 0 : 1, 1);
        dueNothing(call, made, asked);
    }

    /** Calls that tell something and have no word of a change. */
    private static void askingChangesNothing() {
        for (Made made : new Made[] {BorderProofs::new, RefusalsTest::some, RefusalsTest::most}) {
            asked(made, "get(24)", x -> x.get(24));
            asked(made, "about(2)", x -> x.about(2));
            asked(made, "node(24, 5)", x -> x.node(24, 5));
            asked(made, "rank(24)", x -> x.rank(24));
            asked(made, "proof(24, 26, 1)", x -> x.proof(24, 26, 1));
            asked(made, "item(24, 26, 0)", x -> x.item(24, 26, 0));
            asked(made, "lengths(5, 1)", x -> x.lengths(5, 1));
            asked(made, "read(24, 26)", x -> x.read(24, 26));
            asked(made, "learnt(25, 25, 0)", x -> x.learnt(25, 25, 0));
            asked(made, "found(25, 25, 0)", x -> x.found(25, 25, 0));
            asked(made, "step(25, 5)", x -> x.step(25, 5));
            asked(made, "former(0)", x -> x.former(0));
            asked(made, "judge(3, ..)", x -> x.judge(3, 12400_22400_50003L));
            asked(made, "differ(0, 3)", x -> x.differ(0, 3));
        }
    }

    /** What is compared would tell a change: each call that changes something is seen. */
    private static void oneMoreIsNotTheSame() {
        Made made = RefusalsTest::some;
        Call[] changes = {x -> x.put(24, 8), x -> x.put(24, 7), x -> x.remove(40), x -> x.scatter(1, 1), BorderProofs::undo,
            x -> x.send(0, 99), x -> x.tell(0), x -> x.alter(0, 0), x -> x.cut(6), BorderProofs::trust, x -> x.believe(5),
            x -> x.follow(25, 5), x -> x.keep(0), x -> x.keep(1), x -> x.again(0)};
        for (int place = 0; place < changes.length; place++) {
            BorderProofs changed = made.now();
            changes[place].on(changed);
            CHECK.due("the change " + place + " is seen", whole(changed).equals(whole(made.now())) ? 1 : 0, 0);
        }
    }
}
