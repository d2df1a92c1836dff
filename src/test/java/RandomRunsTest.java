import java.util.Random;

/** Many runs of calls by seeds that are always the same: the class answers as the model does. */
public final class RandomRunsTest {
    private static final int RUNS = 3000;
    /** "An object is used for at most 512 calls": what later ones answer is free. */
    private static final int MOST_CALLS = 512;
    /** The calls that are left then are enough for all that is asked at the end. */
    private static final int RUN_CALLS = 320;
    private static final int NONE = -9;

    private final Check check;
    private final Random random;
    private final String run;
    private final BorderProofs real = new BorderProofs();
    private final Model model = new Model();
    /** Few keys near one another in some runs, so that they often meet. */
    private final int spread;
    private int a;
    private int b;
    private int calls = 0;

    private RandomRunsTest(Check check, int seed) {
        this.check = check;
        this.random = new Random(seed);
        this.run = "seed " + seed + ": ";
        this.spread = new int[] {100, 12, 40}[seed % 3];
    }

    public static void main(String[] args) {
        Check check = new Check("RandomRunsTest");
        for (int seed = 0; seed < RUNS; seed++) {
            new RandomRunsTest(check, seed).go();
        }
        check.finish();
    }

    private void go() {
        while (calls < RUN_CALLS) {
            one();
        }
        whole();
    }

    private void due(String call, int got, int want) {
        calls++;
        if (calls <= MOST_CALLS) {
            check.due(run + call, got, want);
        }
    }

    private boolean rarely() {
        return random.nextInt(25) == 0;
    }

    private int odd() {
        int[] some = {-1, -9, 100, 101, -100, 99, 0, 8, 41, Integer.MIN_VALUE, Integer.MAX_VALUE};
        return some[random.nextInt(some.length)];
    }

    private int key() {
        if (rarely()) {
            return odd();
        }
        // runs with few keys lie at either end, so that the borders are met
        int key = random.nextInt(spread);
        return random.nextInt(10) == 0 ? 99 - key : key;
    }

    private int heldKey() {
        if (model.map.isEmpty() || random.nextInt(4) == 0) {
            return key();
        }
        Integer held = model.map.ceilingKey(random.nextInt(100));
        return held == null ? model.map.firstKey() : held;
    }

    private int value() {
        return rarely() ? odd() : random.nextInt(random.nextBoolean() ? 3 : 100);
    }

    private int stepValue() {
        return random.nextInt(3) == 0 ? NONE : value();
    }

    private int upTo(int most) {
        return rarely() ? odd() : random.nextInt(most + 1);
    }

    private int item() {
        switch (random.nextInt(6)) {
            case 0: return 0;
            case 1: return 1 + random.nextInt(Integer.MAX_VALUE);
            case 2: return new int[] {-1, -99, -100, -10099, -10100, 1, Integer.MAX_VALUE, Integer.MIN_VALUE}[random.nextInt(8)];
            default: return -100 - 100 * random.nextInt(spread) - random.nextInt(100);
        }
    }

    private void pickRange() {
        a = key();
        b = random.nextInt(3) == 0 ? a : key();
        if (a > b && random.nextInt(10) != 0) {
            int other = a;
            a = b;
            b = other;
        }
    }

    private void one() {
        int kind = random.nextInt(100);
        if (kind < 30) {
            mapCall();
        } else if (kind < 45) {
            proofCall();
        } else if (kind < 80) {
            readerCall();
        } else if (kind < 90) {
            followCall();
        } else {
            slotCall();
        }
    }

    private void mapCall() {
        int key = heldKey();
        switch (random.nextInt(9)) {
            case 0: case 1: case 2: {
                int newKey = key();
                int value = value();
                due("put(" + newKey + ", " + value + ")", real.put(newKey, value), model.put(newKey, value));
                break;
            }
            case 3: due("remove(" + key + ")", real.remove(key), model.remove(key)); break;
            case 4: due("get(" + key + ")", real.get(key), model.get(key)); break;
            case 5: {
                int n = upTo(21);
                long x = random.nextLong();
                if (spread == 100 || rarely()) {
                    due("scatter(" + n + ", " + x + ")", real.scatter(n, x), model.scatter(n, x));
                }
                break;
            }
            case 6: due("undo()", real.undo(), model.undo()); break;
            case 7: {
                int what = upTo(8);
                due("node(" + key + ", " + what + ")", real.node(key, what), model.node(key, what));
                break;
            }
            default: {
                int what = upTo(8);
                due("about(" + what + ")", real.about(what), model.about(what));
                due("rank(" + key + ")", real.rank(key), model.rank(key));
            }
        }
    }

    private void proofCall() {
        pickRange();
        switch (random.nextInt(3)) {
            case 0: {
                int what = upTo(3);
                due("proof(" + a + ", " + b + ", " + what + ")", real.proof(a, b, what), model.proof(a, b, what));
                break;
            }
            case 1: {
                int place = upTo(20);
                due("item(" + a + ", " + b + ", " + place + ")", real.item(a, b, place), model.item(a, b, place));
                break;
            }
            default: {
                int n = upTo(25);
                int what = upTo(2);
                due("lengths(" + n + ", " + what + ")", real.lengths(n, what), model.lengths(n, what));
            }
        }
    }

    private void readerCall() {
        if (random.nextInt(4) == 0) {
            pickRange();
        }
        int place = upTo(12);
        int item = item();
        int what = upTo(5);
        switch (random.nextInt(12)) {
            case 0: case 1: due("send(" + a + ", " + b + ")", real.send(a, b), model.send(a, b)); break;
            case 2: due("tell(" + item + ")", real.tell(item), model.tell(item)); break;
            case 3: due("alter(" + place + ", " + item + ")", real.alter(place, item), model.alter(place, item)); break;
            case 4: {
                int n = model.row.size() - upTo(3);
                due("cut(" + n + ")", real.cut(n), model.cut(n));
                break;
            }
            case 5: due("trust()", real.trust(), model.trust()); break;
            case 6: believeRow(); break;
            case 7: case 8: due("read(" + a + ", " + b + ")", real.read(a, b), model.read(a, b)); break;
            case 9: due("learnt(" + a + ", " + b + ", " + what + ")", real.learnt(a, b, what), model.learnt(a, b, what)); break;
            case 10: due("found(" + a + ", " + b + ", " + place + ")", real.found(a, b, place), model.found(a, b, place)); break;
            default: due("former(" + place + ")", real.former(place), model.former(place));
        }
    }

    /** The reader believes what the row comes to, or a made up row: so that rows that are no proofs are fine, too. */
    private void believeRow() {
        if (random.nextBoolean()) {
            due("cut(0)", real.cut(0), model.cut(0));
            tellTree(0, 99, -1, 0);
        }
        int digest = Model.badRange(a, b) ? odd() : model.digestOfRow(a, b);
        due("believe(" + digest + ")", real.believe(digest), model.believe(digest));
    }

    private void tellTree(int lo, int hi, int parent, int depth) {
        int key = lo + random.nextInt(Math.max(1, hi - lo + 1));
        boolean wrong = random.nextInt(150) == 0;
        boolean fits = lo <= hi && (parent < 0 || Model.above(parent, key));
        if ((fits || wrong) && depth < 7 && random.nextInt(6) != 0) {
            int item = -100 - 100 * Math.min(99, key) - random.nextInt(100);
            due("tell(" + item + ")", real.tell(item), model.tell(item));
            tellTree(lo, key - 1, key, depth + 1);
            tellTree(key + 1, hi, key, depth + 1);
            return;
        }
        boolean hides = (lo <= hi && (lo > b || hi < a) || wrong) && random.nextBoolean();
        int item = hides ? 1 + random.nextInt(1000) : 0;
        due("tell(" + item + ")", real.tell(item), model.tell(item));
    }

    /** A proof of what is beside a key, a step by it, and often the same in the map. */
    private void followCall() {
        int key = heldKey();
        int value = stepValue();
        if (random.nextInt(3) != 0 && !Model.bad(key)) {
            a = Math.max(0, key - 1);
            b = Math.min(99, key + 1);
            due("trust()", real.trust(), model.trust());
            due("send(" + a + ", " + b + ")", real.send(a, b), model.send(a, b));
        }
        String told = "(" + key + ", " + value + ")";
        due("step" + told, real.step(key, value), model.step(key, value));
        if (random.nextBoolean()) {
            due("follow" + told, real.follow(key, value), model.follow(key, value));
            due("about(6)", real.about(6), model.about(6));
        }
        if (random.nextBoolean()) {
            if (value == NONE) {
                due("remove(" + key + ")", real.remove(key), model.remove(key));
            } else {
                due("put" + told, real.put(key, value), model.put(key, value));
            }
        }
    }

    private long told(int n) {
        if (rarely()) {
            return random.nextBoolean() ? -1 : random.nextLong();
        }
        long row = 0;
        for (int i = 0; i < n; i++) {
            int kind = random.nextInt(20) == 0 ? random.nextInt(10) : 1 + random.nextInt(5);
            int key = Math.floorMod(heldKey(), 100);
            int last = random.nextInt(100);
            if (kind == 2 && !rarely()) {
                last = 0;
            } else if (kind == 3 && random.nextInt(3) != 0) {
                last = Math.max(0, model.get(key));
            } else if (kind == 4 && random.nextInt(3) != 0) {
                last = Math.max(0, model.node(key, 0));
            } else if (kind == 5 && random.nextInt(3) != 0) {
                last = model.proof(key, key, 0);
            }
            row = row * 100000 + 10000 * kind + 100 * key + last;
        }
        return row;
    }

    private void slotCall() {
        int slot = rarely() ? odd() : random.nextInt(2);
        switch (random.nextInt(10)) {
            case 0: due("keep(" + slot + ")", real.keep(slot), model.keep(slot)); break;
            case 1: due("again(" + slot + ")", real.again(slot), model.again(slot)); break;
            case 2: case 3: case 4: {
                int what = upTo(4);
                due("differ(" + slot + ", " + what + ")", real.differ(slot, what), model.differ(slot, what));
                break;
            }
            default: {
                int n = rarely() ? odd() : 1 + random.nextInt(3);
                long row = told(Math.max(1, Math.min(3, rarely() ? n + 1 : n)));
                due("judge(" + n + ", " + row + ")", real.judge(n, row), model.judge(n, row));
            }
        }
    }

    /** The whole of the map, of each of its nodes one thing, of the reader and the doings. */
    private void whole() {
        for (int what = 0; what < 8; what++) {
            due("about(" + what + ")", real.about(what), model.about(what));
        }
        for (int key = 0; key < 100; key++) {
            due("get(" + key + ")", real.get(key), model.get(key));
        }
        for (int key : model.map.keySet()) {
            int what = random.nextInt(8);
            due("node(" + key + ", " + what + ")", real.node(key, what), model.node(key, what));
        }
        for (int place = 0; place < 8; place++) {
            due("former(" + place + ")", real.former(place), model.former(place));
        }
        while (!model.before.isEmpty()) {
            due("undo()", real.undo(), model.undo());
            due("about(1)", real.about(1), model.about(1));
        }
    }
}
