import java.util.Random;

/**
 * What the document's first lines say as a whole, of maps by fixed seeds: what the reader believes is what the map has,
 * what is altered or cut it does not believe, and a step by a proof alone comes to the digest that the map comes to.
 * No second model is asked: one call of the class is held against others.
 */
public final class LawsTest {
    private static final Check CHECK = new Check("LawsTest");
    private static final int UNKNOWN = -1, FULL = -4, NONE = -9;
    private static final int FINE = 0, SHORT = 1, LONG = 2, HIDDEN = 5, STALE = 7;
    private static final int MAPS = 60;

    public static void main(String[] args) {
        for (int seed = 0; seed < MAPS; seed++) {
            Random random = new Random(seed);
            int a = random.nextInt(100);
            int b = a + random.nextInt(100 - a);
            int[] range = seed % 4 == 0 ? new int[] {a, a} : new int[] {a, b};
            learntIsWhatTheMapHas(seed, range[0], range[1]);
            learntByEachNumberOfTheRange(seed, range[0], range[1]);
            whatIsNotShownIsHidden(seed, range[0], range[1]);
            alteredIsNotBelieved(seed, range[0], range[1], random);
            cutIsShortAndMoreIsLong(seed, range[0], range[1]);
            staleAfterADoing(seed, range[0], range[1]);
            stepsComeToTheRoot(seed, random);
            goneOnFrom(seed);
            allUndone(seed);
            judgedAsDone(seed, random);
            numbersByLength(seed);
        }
        CHECK.finish();
    }

    private static void due(String call, long got, long want) {
        CHECK.due(call, got, want);
    }

    /** None to 40 keys, by the seed. */
    private static BorderProofs map(int seed) {
        BorderProofs x = new BorderProofs();
        for (int time = 0; time < seed % 7; time++) {
            x.scatter(1 + (seed + 7 * time) % 20, 1000L * seed + time);
        }
        return x;
    }

    private static BorderProofs sent(int seed, int a, int b) {
        BorderProofs x = map(seed);
        x.trust();
        x.send(a, b);
        return x;
    }

    private static String of(int seed, int a, int b) {
        return "map " + seed + ", " + a + " .. " + b + ": ";
    }

    // ---- "proofs of what lies in a range of numbers"

    private static void learntIsWhatTheMapHas(int seed, int a, int b) {
        BorderProofs x = sent(seed, a, b);
        due(of(seed, a, b) + "read", x.read(a, b), FINE);
        due(of(seed, a, b) + "its items", x.about(5), x.proof(a, b, 0));
        due(of(seed, a, b) + "its nodes", x.learnt(a, b, 4), x.proof(a, b, 2));
        int keys = 0;
        int values = 0;
        for (int key = a; key <= b; key++) {
            int value = x.get(key);
            if (value != NONE) {
                due(of(seed, a, b) + "found, place " + keys, x.found(a, b, keys), 100 * key + value);
                keys++;
                values += value;
            }
        }
        due(of(seed, a, b) + "no more are found", x.found(a, b, keys), NONE);
        due(of(seed, a, b) + "keys", x.learnt(a, b, 0), keys);
        due(of(seed, a, b) + "values", x.learnt(a, b, 1), values);
    }

    /** "that a key is not there" is learnt like its value, by a proof of more than it. */
    private static void learntByEachNumberOfTheRange(int seed, int a, int b) {
        BorderProofs x = sent(seed, a, b);
        for (int key = a; key <= b; key++) {
            int value = x.get(key);
            due(of(seed, a, b) + "found " + key, x.found(key, key, 0), value == NONE ? NONE : 100 * key + value);
        }
    }

    /** "that show what may lie there and hide the rest": beyond the range it is FINE only if all there is shown. */
    private static void whatIsNotShownIsHidden(int seed, int a, int b) {
        BorderProofs x = sent(seed, a, b);
        int items = x.about(5);
        for (int number = 0; number < 100; number++) {
            int lo = Math.min(a, number);
            int hi = Math.max(b, number);
            due(of(seed, lo, hi) + "read by more", x.read(lo, hi), x.proof(lo, hi, 0) == items ? FINE : HIDDEN);
        }
    }

    // ---- "or sent it, altered, cut"

    private static int another(int item, Random random) {
        switch (random.nextInt(3)) {
            case 0: return item == 0 ? 1 : 0;
            case 1: return item == 1 ? 2 : 1 + (item & 1023);
            default: return item == -100 ? -101 : -100 - random.nextInt(10000);
        }
    }

    private static void alteredIsNotBelieved(int seed, int a, int b, Random random) {
        BorderProofs x = sent(seed, a, b);
        int items = x.about(5);
        for (int place = 0; place < items; place++) {
            int was = x.item(a, b, place);
            int is = another(was, random);
            x.alter(place, is);
            due(of(seed, a, b) + was + " is " + is, x.read(a, b) == FINE ? 1 : 0, is == was ? 1 : 0);
            due(of(seed, a, b) + "back", x.alter(place, was), is);
        }
        due(of(seed, a, b) + "as it was", x.read(a, b), FINE);
    }

    private static void cutIsShortAndMoreIsLong(int seed, int a, int b) {
        BorderProofs x = sent(seed, a, b);
        int items = x.about(5);
        x.tell(0);
        due(of(seed, a, b) + "one more", x.read(a, b), LONG);
        x.cut(items);
        due(of(seed, a, b) + "as it was", x.read(a, b), FINE);
        for (int n = items - 1; n >= 0; n--) {
            x.cut(n);
            due(of(seed, a, b) + "the first " + n, x.read(a, b), SHORT);
        }
    }

    /** "digests that it trusted before, so that what is stale is told". */
    private static void staleAfterADoing(int seed, int a, int b) {
        BorderProofs x = sent(seed, a, b);
        int other = (x.get(50) + 10) % 100;
        if (x.about(0) < 40 || x.get(50) != NONE) {
            x.put(50, other);
            due(of(seed, a, b) + "the reader knows no doing", x.read(a, b), FINE);
            x.trust();
            due(of(seed, a, b) + "the old proof", x.read(a, b), STALE);
            x.send(a, b);
            due(of(seed, a, b) + "the new proof", x.read(a, b), FINE);
        }
    }

    // ---- "steps that the reader follows by a proof alone"

    private static void stepsComeToTheRoot(int seed, Random random) {
        for (int first = 0; first < 100; first += 25) {
            BorderProofs x = map(seed);
            x.trust();
            int root = x.about(1);
            for (int key = first; key < first + 25; key++) {
                x.send(Math.max(0, key - 1), Math.min(99, key + 1));
                stepIsAs(seed, x, key, random.nextInt(100));
                stepIsAs(seed, x, key, NONE);
            }
            due("map " + seed + ": the reader trusts what it did", x.about(6), root);
            due("map " + seed + ": the map is as it was", x.about(1), root);
        }
    }

    /** A step, and the same doing in the map, which is then undone. */
    private static void stepIsAs(int seed, BorderProofs x, int key, int value) {
        int step = x.step(key, value);
        int done = value == NONE ? x.remove(key) : x.put(key, value);
        String told = "map " + seed + ": step(" + key + ", " + value + ")";
        if (done >= 0 || done == NONE) {
            due(told, step, x.about(1));
            x.undo();
        } else if (done == UNKNOWN) {
            due(told, step, UNKNOWN);
        } else {
            // FULL is told of the map alone
            due(told + " of a 41st", step > 0 ? 1 : 0, 1);
        }
    }

    // ---- "kept and gone on from", "all undone", "told doings judged", "for which numbers a proof is so long"

    private static void goneOnFrom(int seed) {
        BorderProofs x = map(seed);
        int root = x.about(1);
        int keys = x.keep(seed % 2);
        x.scatter(20, seed);
        int otherwise = x.differ(seed % 2, 0);
        int here = x.about(1);
        x.keep(1 - seed % 2);
        due("map " + seed + ": again", x.again(seed % 2), keys);
        due("map " + seed + ": ROOT", x.about(1), root);
        due("map " + seed + ": as many are otherwise from the other side", x.differ(1 - seed % 2, 0), otherwise);
        due("map " + seed + ": none is otherwise", x.differ(seed % 2, 0), 0);
        due("map " + seed + ": all are passed over", x.differ(seed % 2, 3), keys);
        x.again(1 - seed % 2);
        due("map " + seed + ": the other ROOT", x.about(1), here);
    }

    private static void allUndone(int seed) {
        BorderProofs x = map(seed);
        x.keep(0);
        int left = x.about(4);
        while (left > 0) {
            due("map " + seed + ": undo()", x.undo(), left - 1);
            left--;
        }
        due("map " + seed + ": all undone", x.about(1), 0);
        due("map " + seed + ": all are otherwise", x.differ(0, 0), x.again(0));
    }

    /** What is judged is so just as if it were done. */
    private static void judgedAsDone(int seed, Random random) {
        BorderProofs x = map(seed);
        for (int time = 0; time < 20; time++) {
            int key = random.nextInt(100);
            int value = random.nextInt(100);
            long told = 100000L * (10000 + 100 * key + value);
            String row = "map " + seed + ": put(" + key + ", " + value + "), ";
            if (x.put(key, value) == FULL) {
                due(row + "a 41st", x.judge(1, told / 100000), 0);
                continue;
            }
            int at = random.nextInt(100);
            int above = x.node(at, 0);
            int items = x.proof(at, at, 0);
            x.undo();
            due(row + "items of " + at, x.judge(2, told + 50000 + 100 * at + items), NONE);
            due(row + "more items of " + at, x.judge(2, told + 50000 + 100 * at + items + 1), 1);
            due(row + "nodes above " + at, x.judge(2, told + 40000 + 100 * at + Math.max(0, above)),
                    above == UNKNOWN ? 1 : NONE);
        }
    }

    private static void numbersByLength(int seed) {
        BorderProofs x = map(seed);
        int numbers = 0;
        for (int n = 0; n <= 81; n++) {
            int many = x.lengths(n, 0);
            int least = x.lengths(n, 1);
            numbers += many;
            due("map " + seed + ": the least of length " + n, least == NONE ? 0 : x.proof(least, least, 0),
                    many == 0 ? 0 : n);
        }
        due("map " + seed + ": each number has one length", numbers, 100);
    }
}
