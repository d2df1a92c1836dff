import java.util.Arrays;

/** A map whose answers can be proved to a reader that trusts one digest. */
public final class BorderProofs {
    public static final int UNKNOWN = -1, BAD = -2, LATE = -3, FULL = -4, NONE = -9;

    /** Keys and values alike are 0 .. 99, and so are the numbers of a range. */
    private static final int NUMBERS = 100;
    private static final int LAST_NUMBER = NUMBERS - 1;
    private static final int MOST_KEYS = 40;
    private static final int MOST_DOINGS = 14;
    private static final int MOST_ITEMS = 100;
    private static final int MOST_FORMER = 8;
    private static final int MOST_SCATTERED = 20;
    private static final int MOST_JUDGED = 3;
    private static final int SLOTS = 2;

    private static final int FINE = 0, SHORT = 1, LONG = 2, KEY = 3, RANK = 4, HIDDEN = 5, ROOT = 6, STALE = 7;

    /** The node items go down from here; 100 more than the key's hundreds, so that none is an empty tree's 0. */
    private static final int FIRST_NODE_ITEM = -100;
    private static final int LAST_NODE_ITEM = FIRST_NODE_ITEM - NUMBERS * NUMBERS + 1;

    private static final long FIVE_FIGURES = 100000L;

    private final Pairs map = new Pairs();
    private final Tree tree = new Tree();
    private final Doings doings = new Doings();
    private final Reader reader = new Reader();
    private final Slot[] slots = new Slot[SLOTS];
    /** Worked on within one call alone: what is tried there never reaches the map. */
    private final Pairs trial = new Pairs();
    private final Tree otherTree = new Tree();
    private final Items written = new Items();

    public BorderProofs() {
        for (int slot = 0; slot < SLOTS; slot++) {
            slots[slot] = new Slot();
        }
    }

    // ---- the map

    public int put(int key, int value) {
        if (!isNumber(key) || !isNumber(value)) {
            return BAD;
        }
        if (!map.hasRoomFor(key)) {
            return FULL;
        }
        int had = map.valueOf(key);
        doings.note(map);
        map.give(key, value);
        tree.grow(map);
        return had;
    }

    public int remove(int key) {
        if (!isNumber(key)) {
            return BAD;
        }
        if (!map.has(key)) {
            return UNKNOWN;
        }
        int had = map.valueOf(key);
        doings.note(map);
        map.drop(key);
        tree.grow(map);
        return had;
    }

    public int get(int key) {
        return isNumber(key) ? map.valueOf(key) : BAD;
    }

    public int scatter(int n, long x) {
        if (n < 1 || n > MOST_SCATTERED) {
            return BAD;
        }
        doings.note(map);
        long seed = x;
        for (int time = 0; time < n; time++) {
            seed = seed * 6364136223846793005L + 1442695040888963407L;
            int upper = (int) (seed >>> 33);
            int key = upper % NUMBERS;
            if (map.hasRoomFor(key)) {
                map.give(key, upper / 128 % NUMBERS);
            }
        }
        tree.grow(map);
        return map.count();
    }

    public int undo() {
        if (doings.count() == 0) {
            return LATE;
        }
        doings.takeBack(map);
        tree.grow(map);
        return doings.count();
    }

    public int about(int what) {
        switch (what) {
            case 0: return map.count();
            case 1: return tree.rootDigest();
            case 2: return tree.height();
            case 3: return map.sumWithin(0, LAST_NUMBER);
            case 4: return doings.count();
            case 5: return reader.row().count();
            case 6: return reader.trusted();
            case 7: return reader.formerCount();
            default: return BAD;
        }
    }

    public int node(int key, int what) {
        if (!map.has(key)) {
            return UNKNOWN;
        }
        Place place = tree.placeOf(key);
        switch (what) {
            case 0: return place.above;
            case 1: return place.parent;
            case 2: return tree.leftOf(key);
            case 3: return tree.rightOf(key);
            case 4: return map.countWithin(place.lo, place.hi);
            case 5: return tree.digestOf(key);
            case 6: return place.lo;
            case 7: return place.hi;
            default: return BAD;
        }
    }

    public int rank(int key) {
        return isNumber(key) ? rankOf(key) : BAD;
    }

    // ---- proofs

    public int proof(int a, int b, int what) {
        if (!isRange(a, b) || what < 0 || what > 2) {
            return BAD;
        }
        tree.writeProof(map, a, b, written);
        if (what == 0) {
            return written.count();
        }
        return what == 1 ? written.countDigests() : written.countNodes();
    }

    public int item(int a, int b, int place) {
        if (!isRange(a, b)) {
            return BAD;
        }
        tree.writeProof(map, a, b, written);
        return written.hasPlace(place) ? written.itemAt(place) : UNKNOWN;
    }

    public int lengths(int n, int what) {
        if (what != 0 && what != 1) {
            return BAD;
        }
        int many = 0;
        int least = NONE;
        for (int number = LAST_NUMBER; number >= 0; number--) {
            if (tree.proofLengthOf(number) == n) {
                many++;
                least = number;
            }
        }
        return what == 0 ? many : least;
    }

    // ---- the reader

    public int send(int a, int b) {
        if (!isRange(a, b)) {
            return BAD;
        }
        tree.writeProof(map, a, b, reader.row());
        return reader.row().count();
    }

    public int tell(int item) {
        if (!isItem(item)) {
            return BAD;
        }
        if (reader.row().isFull()) {
            return FULL;
        }
        reader.row().add(item);
        return reader.row().count();
    }

    public int alter(int place, int item) {
        if (!reader.row().hasPlace(place)) {
            return UNKNOWN;
        }
        if (!isItem(item)) {
            return BAD;
        }
        int was = reader.row().itemAt(place);
        reader.row().replace(place, item);
        return was;
    }

    public int cut(int n) {
        int were = reader.row().count();
        if (n < 0 || n > were) {
            return BAD;
        }
        reader.row().shorten(n);
        return were;
    }

    public int trust() {
        return reader.nowTrust(tree.rootDigest());
    }

    public int believe(int digest) {
        return digest < 0 ? BAD : reader.nowTrust(digest);
    }

    public int read(int a, int b) {
        return isRange(a, b) ? reader.reasonBy(a, b) : BAD;
    }

    public int learnt(int a, int b, int what) {
        if (!isRange(a, b) || what < 0 || what > 4) {
            return BAD;
        }
        if (reader.reasonBy(a, b) != FINE) {
            return LATE;
        }
        Pairs shown = reader.shown();
        switch (what) {
            case 0: return shown.countWithin(a, b);
            case 1: return shown.sumWithin(a, b);
            case 2: return shown.greatestBelow(a);
            case 3: return shown.leastAbove(b);
            default: return shown.count();
        }
    }

    public int found(int a, int b, int place) {
        if (!isRange(a, b)) {
            return BAD;
        }
        if (reader.reasonBy(a, b) != FINE) {
            return LATE;
        }
        Pairs shown = reader.shown();
        int key = shown.keyOfPlace(a, b, place);
        return key == NONE ? NONE : NUMBERS * key + shown.valueOf(key);
    }

    public int step(int key, int value) {
        return isStep(key, value) ? reader.digestAfter(key, value) : BAD;
    }

    public int follow(int key, int value) {
        if (!isStep(key, value)) {
            return BAD;
        }
        int digest = reader.digestAfter(key, value);
        // no digest is less than 0, so this is why the step can not be followed
        return digest < 0 ? digest : reader.nowTrust(digest);
    }

    public int former(int place) {
        return place < 0 || place >= reader.formerCount() ? UNKNOWN : reader.formerAt(place);
    }

    // ---- judged, slots

    public int judge(int n, long row) {
        if (n < 1 || n > MOST_JUDGED || row < 0 || withoutLast(n, row) != 0) {
            return BAD;
        }
        trial.become(map);
        for (int place = 0; place < n; place++) {
            // the first doing told stands in the highest figures
            if (!canBe((int) (withoutLast(n - 1 - place, row) % FIVE_FIGURES))) {
                return place;
            }
        }
        return NONE;
    }

    public int keep(int slot) {
        if (!isSlot(slot)) {
            return UNKNOWN;
        }
        slots[slot].fill(map);
        return map.count();
    }

    public int again(int slot) {
        if (!isSlot(slot)) {
            return UNKNOWN;
        }
        if (!slots[slot].isFilled()) {
            return LATE;
        }
        map.become(slots[slot].pairs());
        doings.forgetAll();
        tree.grow(map);
        return map.count();
    }

    public int differ(int slot, int what) {
        if (!isSlot(slot)) {
            return UNKNOWN;
        }
        if (!slots[slot].isFilled()) {
            return LATE;
        }
        Pairs kept = slots[slot].pairs();
        switch (what) {
            case 0: return countOtherwise(kept);
            case 1: return leastOtherwise(kept);
            case 2: return countPassedOver(kept);
            case 3: return countNodesPassedOver(kept);
            default: return BAD;
        }
    }

    // ---- how a told doing is judged

    private static long withoutLast(int doings, long row) {
        long rest = row;
        for (int time = 0; time < doings; time++) {
            rest /= FIVE_FIGURES;
        }
        return rest;
    }

    private boolean canBe(int figures) {
        int key = figures / 100 % 100;
        int last = figures % 100;
        switch (figures / 10000) {
            case 1: return tryPut(key, last);
            case 2: return last == 0 && tryRemove(key);
            case 3: return trial.has(key) && trial.valueOf(key) == last;
            case 4: return trial.has(key) && trialTree().placeOf(key).above == last;
            case 5: return trialTree().proofLengthOf(key) == last;
            default: return false;
        }
    }

    private boolean tryPut(int key, int value) {
        if (!trial.hasRoomFor(key)) {
            return false;
        }
        trial.give(key, value);
        return true;
    }

    private boolean tryRemove(int key) {
        if (!trial.has(key)) {
            return false;
        }
        trial.drop(key);
        return true;
    }

    private Tree trialTree() {
        otherTree.grow(trial);
        return otherTree;
    }

    // ---- what is otherwise between the map and a kept one

    private int countOtherwise(Pairs kept) {
        int many = 0;
        for (int key = 0; key < NUMBERS; key++) {
            if (map.valueOf(key) != kept.valueOf(key)) {
                many++;
            }
        }
        return many;
    }

    private int leastOtherwise(Pairs kept) {
        for (int key = 0; key < NUMBERS; key++) {
            if (map.valueOf(key) != kept.valueOf(key)) {
                return key;
            }
        }
        return NONE;
    }

    private int countPassedOver(Pairs kept) {
        otherTree.grow(kept);
        int many = 0;
        for (int key = 0; key < NUMBERS; key++) {
            if (tree.isFirstLike(key, otherTree)) {
                many++;
            }
        }
        return many;
    }

    private int countNodesPassedOver(Pairs kept) {
        otherTree.grow(kept);
        int many = 0;
        for (int key = 0; key < NUMBERS; key++) {
            if (tree.isFirstLike(key, otherTree)) {
                Place place = tree.placeOf(key);
                many += map.countWithin(place.lo, place.hi);
            }
        }
        return many;
    }

    // ---- what the arguments may be

    private static boolean isNumber(int number) {
        return number >= 0 && number < NUMBERS;
    }

    private static boolean isRange(int a, int b) {
        return 0 <= a && a <= b && b < NUMBERS;
    }

    private static boolean isItem(int item) {
        return item >= 0 || isNodeItem(item);
    }

    private static boolean isNodeItem(int item) {
        return item <= FIRST_NODE_ITEM && item >= LAST_NODE_ITEM;
    }

    private static boolean isStep(int key, int value) {
        return isNumber(key) && (isNumber(value) || value == NONE);
    }

    private static boolean isSlot(int slot) {
        return slot >= 0 && slot < SLOTS;
    }

    // ---- ranks, digests, node items

    private static int rankOf(int key) {
        long more = key + 3L;
        return (int) (4721L * more * more * more % 10007L);
    }

    private static boolean isAbove(int key, int other) {
        int rank = rankOf(key);
        int otherRank = rankOf(other);
        return rank == otherRank ? key < other : rank > otherRank;
    }

    private static int digestOfNode(int key, int value, int left, int right) {
        long x = 17;
        x = mixed(x, key);
        x = mixed(x, value);
        x = mixed(x, left);
        x = mixed(x, right);
        return (int) (1 + x);
    }

    private static long mixed(long x, int with) {
        return (1000003L * x + with) % 2147483647L;
    }

    private static int nodeItem(int key, int value) {
        return FIRST_NODE_ITEM - (NUMBERS * key + value);
    }

    private static int keyOfItem(int nodeItem) {
        return (FIRST_NODE_ITEM - nodeItem) / NUMBERS;
    }

    private static int valueOfItem(int nodeItem) {
        return (FIRST_NODE_ITEM - nodeItem) % NUMBERS;
    }

    /** Keys with values: the map, one that was kept, one that is tried, or what a row shows. */
    private static final class Pairs {
        private final int[] values = new int[NUMBERS];
        private int count;

        Pairs() {
            Arrays.fill(values, NONE);
        }

        int count() {
            return count;
        }

        int valueOf(int key) {
            return isNumber(key) ? values[key] : NONE;
        }

        boolean has(int key) {
            return valueOf(key) != NONE;
        }

        boolean hasRoomFor(int key) {
            return has(key) || count < MOST_KEYS;
        }

        void give(int key, int value) {
            if (isNumber(key)) {
                if (values[key] == NONE) {
                    count++;
                }
                values[key] = value;
            }
        }

        void drop(int key) {
            if (has(key)) {
                count--;
                values[key] = NONE;
            }
        }

        void clear() {
            Arrays.fill(values, NONE);
            count = 0;
        }

        void become(Pairs other) {
            System.arraycopy(other.values, 0, values, 0, NUMBERS);
            count = other.count;
        }

        int countWithin(int lo, int hi) {
            int many = 0;
            for (int key = 0; key < NUMBERS; key++) {
                if (lo <= key && key <= hi && has(key)) {
                    many++;
                }
            }
            return many;
        }

        int sumWithin(int lo, int hi) {
            int sum = 0;
            for (int key = 0; key < NUMBERS; key++) {
                if (lo <= key && key <= hi && has(key)) {
                    sum += values[key];
                }
            }
            return sum;
        }

        int greatestBelow(int number) {
            int greatest = NONE;
            for (int key = 0; key < NUMBERS; key++) {
                if (key < number && has(key)) {
                    greatest = key;
                }
            }
            return greatest;
        }

        int leastAbove(int number) {
            for (int key = 0; key < NUMBERS; key++) {
                if (key > number && has(key)) {
                    return key;
                }
            }
            return NONE;
        }

        int keyOfPlace(int lo, int hi, int place) {
            int passed = 0;
            for (int key = 0; key < NUMBERS; key++) {
                if (lo <= key && key <= hi && has(key)) {
                    if (passed == place) {
                        return key;
                    }
                    passed++;
                }
            }
            return NONE;
        }
    }

    /** Where a node stands in a tree. */
    private static final class Place {
        final int above;
        final int parent;
        final int lo;
        final int hi;

        Place(int above, int parent, int lo, int hi) {
            this.above = above;
            this.parent = parent;
            this.lo = lo;
            this.hi = hi;
        }
    }

    /** The tree of some pairs; trees that are not shown hang, as digests, in the gaps between its keys. */
    private static final class Tree {
        private final int[] lefts = new int[NUMBERS];
        private final int[] rights = new int[NUMBERS];
        /** By key; 0 where there is no node. */
        private final int[] digests = new int[NUMBERS];
        /** Of the gap that ends before a key its digest; the last one is of the gap behind all keys. */
        private final int[] hidden = new int[NUMBERS + 1];
        /** The nodes whose right side is still open, the highest first. */
        private final int[] open = new int[NUMBERS];
        private int openCount;
        private int root = NONE;
        private final Pending pending = new Pending();

        int rootDigest() {
            return digestOr(root, NUMBERS);
        }

        int leftOf(int key) {
            return isNumber(key) ? lefts[key] : NONE;
        }

        int rightOf(int key) {
            return isNumber(key) ? rights[key] : NONE;
        }

        int digestOf(int key) {
            return isNumber(key) ? digests[key] : 0;
        }

        void hideNothing() {
            Arrays.fill(hidden, 0);
        }

        void hide(int gap, int digest) {
            if (gap >= 0 && gap <= NUMBERS) {
                hidden[gap] = digest;
            }
        }

        /** Key by key, the least first: each closes what is below it, and hangs that to its left. */
        void grow(Pairs pairs) {
            Arrays.fill(digests, 0);
            openCount = 0;
            for (int key = 0; key < NUMBERS; key++) {
                if (pairs.has(key)) {
                    lefts[key] = closeBefore(key, pairs);
                    if (openCount < NUMBERS) {
                        open[openCount] = key;
                        openCount++;
                    }
                }
            }
            root = closeBefore(NUMBERS, pairs);
        }

        /** Closes the open nodes that are not above the key (all for NUMBERS): the highest of them. */
        private int closeBefore(int key, Pairs pairs) {
            int highest = NONE;
            for (int time = 0; time < NUMBERS && openCount > 0; time++) {
                int last = open[openCount - 1];
                if (!isNumber(last) || isNumber(key) && isAbove(last, key)) {
                    break;
                }
                openCount--;
                rights[last] = highest;
                digests[last] = digestOfNode(last, pairs.valueOf(last),
                        digestOr(lefts[last], last), digestOr(highest, key));
                highest = last;
            }
            return highest;
        }

        /** The digest of the tree below a key or, where there is no key, of what is hidden in the gap. */
        private int digestOr(int key, int gap) {
            if (isNumber(key)) {
                return digests[key];
            }
            return gap >= 0 && gap <= NUMBERS ? hidden[gap] : 0;
        }

        private int childTowards(int key, int number) {
            if (number == key) {
                return NONE;
            }
            return number < key ? leftOf(key) : rightOf(key);
        }

        /** How many nodes have the number in their borders. */
        private int countNodesAround(int number) {
            int nodes = 0;
            int at = root;
            for (int time = 0; time < NUMBERS && isNumber(at); time++) {
                nodes++;
                at = childTowards(at, number);
            }
            return nodes;
        }

        /** Each node that is shown has two sides, and each side that is not a node is one item. */
        int proofLengthOf(int number) {
            return 2 * countNodesAround(number) + 1;
        }

        int height() {
            int most = 0;
            for (int number = 0; number < NUMBERS; number++) {
                most = Math.max(most, countNodesAround(number));
            }
            return most;
        }

        Place placeOf(int key) {
            int above = 0;
            int parent = NONE;
            int lo = 0;
            int hi = LAST_NUMBER;
            int at = root;
            for (int time = 0; time < NUMBERS && isNumber(at) && at != key; time++) {
                above++;
                parent = at;
                if (key < at) {
                    hi = at - 1;
                } else {
                    lo = at + 1;
                }
                at = childTowards(at, key);
            }
            return new Place(above, parent, lo, hi);
        }

        private boolean isLike(int key, Tree other) {
            return digestOf(key) != 0 && digestOf(key) == other.digestOf(key);
        }

        /** Whether a node is alike in both trees, and none above it here is. */
        boolean isFirstLike(int key, Tree other) {
            int at = root;
            for (int time = 0; time < NUMBERS && isNumber(at) && at != key; time++) {
                if (isLike(at, other)) {
                    return false;
                }
                at = childTowards(at, key);
            }
            return at == key && isLike(key, other);
        }

        void writeProof(Pairs pairs, int a, int b, Items into) {
            into.shorten(0);
            pending.clear();
            int at = root;
            int lo = 0;
            int hi = LAST_NUMBER;
            for (int time = 0; time < MOST_ITEMS; time++) {
                if (isNumber(at) && lo <= b && a <= hi) {
                    into.add(nodeItem(at, pairs.valueOf(at)));
                    pending.push(at, hi);
                    hi = at - 1;
                    at = leftOf(at);
                } else {
                    into.add(digestOf(at));
                    if (!pending.pop()) {
                        break;
                    }
                    at = rightOf(pending.key());
                    lo = pending.key() + 1;
                    hi = pending.hi();
                }
            }
        }
    }

    /** Nodes whose right side is still to come, each with the greatest number that may lie there. */
    private static final class Pending {
        private final int[] keys = new int[MOST_ITEMS];
        private final int[] his = new int[MOST_ITEMS];
        private int count;
        private int key;
        private int hi;

        void clear() {
            count = 0;
        }

        void push(int newKey, int newHi) {
            if (count < MOST_ITEMS) {
                keys[count] = newKey;
                his[count] = newHi;
                count++;
            }
        }

        /** Takes the last one, which key and hi then tell; false: there is none. */
        boolean pop() {
            if (count <= 0) {
                return false;
            }
            count--;
            key = keys[count];
            hi = his[count];
            return true;
        }

        int key() {
            return key;
        }

        int hi() {
            return hi;
        }
    }

    /** A row of items. */
    private static final class Items {
        private final int[] items = new int[MOST_ITEMS];
        private int count;

        int count() {
            return count;
        }

        boolean isFull() {
            return count >= MOST_ITEMS;
        }

        boolean hasPlace(int place) {
            return place >= 0 && place < count;
        }

        int itemAt(int place) {
            return hasPlace(place) ? items[place] : 0;
        }

        void add(int item) {
            if (!isFull()) {
                items[count] = item;
                count++;
            }
        }

        void replace(int place, int item) {
            if (hasPlace(place)) {
                items[place] = item;
            }
        }

        void shorten(int n) {
            if (n >= 0 && n < count) {
                count = n;
            }
        }

        int countDigests() {
            int many = 0;
            for (int place = 0; place < count; place++) {
                if (itemAt(place) > 0) {
                    many++;
                }
            }
            return many;
        }

        int countNodes() {
            int many = 0;
            for (int place = 0; place < count; place++) {
                if (itemAt(place) < 0) {
                    many++;
                }
            }
            return many;
        }
    }

    /** The reader: it knows a row of items and digests alone, never the map. */
    private static final class Reader {
        private final Items row = new Items();
        private int trusted;
        /** The last one first. */
        private final int[] former = new int[MOST_FORMER];
        private int formerCount;
        /** What the row shows, as it was read last. */
        private final Pairs shown = new Pairs();
        private final Tree shownTree = new Tree();
        private final Pending pending = new Pending();

        Items row() {
            return row;
        }

        Pairs shown() {
            return shown;
        }

        int trusted() {
            return trusted;
        }

        int formerCount() {
            return formerCount;
        }

        int formerAt(int place) {
            return place >= 0 && place < formerCount ? former[place] : 0;
        }

        int nowTrust(int digest) {
            for (int place = MOST_FORMER - 1; place > 0; place--) {
                former[place] = former[place - 1];
            }
            former[0] = trusted;
            formerCount = Math.min(formerCount + 1, MOST_FORMER);
            trusted = digest;
            return formerCount;
        }

        private boolean isFormer(int digest) {
            for (int place = 0; place < formerCount; place++) {
                if (formerAt(place) == digest) {
                    return true;
                }
            }
            return false;
        }

        int reasonBy(int a, int b) {
            int reason = takeIn(a, b);
            if (reason != FINE) {
                return reason;
            }
            shownTree.grow(shown);
            int digest = shownTree.rootDigest();
            if (digest == trusted) {
                return FINE;
            }
            return isFormer(digest) ? STALE : ROOT;
        }

        /** Reads the row item by item, up to the first reason that needs no digest of the whole. */
        private int takeIn(int a, int b) {
            shown.clear();
            shownTree.hideNothing();
            pending.clear();
            int parent = NONE;
            int lo = 0;
            int hi = LAST_NUMBER;
            for (int place = 0; place < row.count(); place++) {
                int item = row.itemAt(place);
                int reason = item < 0 ? reasonOfNode(keyOfItem(item), parent, lo, hi)
                        : reasonOfLeaf(item, lo, hi, lo <= b && a <= hi);
                if (reason != FINE) {
                    return reason;
                }
                if (item < 0) {
                    parent = keyOfItem(item);
                    shown.give(parent, valueOfItem(item));
                    pending.push(parent, hi);
                    hi = parent - 1;
                } else {
                    shownTree.hide(hi + 1, item);
                    if (!pending.pop()) {
                        return place + 1 < row.count() ? LONG : FINE;
                    }
                    parent = pending.key();
                    lo = parent + 1;
                    hi = pending.hi();
                }
            }
            return SHORT;
        }

        private static int reasonOfNode(int key, int parent, int lo, int hi) {
            if (key < lo || key > hi) {
                return KEY;
            }
            return isNumber(parent) && !isAbove(parent, key) ? RANK : FINE;
        }

        private static int reasonOfLeaf(int item, int lo, int hi, boolean meetsRange) {
            if (item == 0) {
                return FINE;
            }
            if (lo > hi) {
                return KEY;
            }
            return meetsRange ? HIDDEN : FINE;
        }

        /** The digest after a step; LATE or UNKNOWN, if it can not be followed. */
        int digestAfter(int key, int value) {
            int a = Math.max(key - 1, 0);
            int b = Math.min(key + 1, LAST_NUMBER);
            if (reasonBy(a, b) != FINE) {
                return LATE;
            }
            if (value != NONE) {
                shown.give(key, value);
            } else if (shown.has(key)) {
                shown.drop(key);
            } else {
                return UNKNOWN;
            }
            // the gaps beside the key lie in the range, so nothing is hidden there that would have to move
            shownTree.grow(shown);
            return shownTree.rootDigest();
        }
    }

    /** The maps that were before the last doings, in a ring. */
    private static final class Doings {
        private final Pairs[] before = new Pairs[MOST_DOINGS];
        private int first;
        private int count;

        Doings() {
            for (int place = 0; place < MOST_DOINGS; place++) {
                before[place] = new Pairs();
            }
        }

        int count() {
            return count;
        }

        void note(Pairs map) {
            if (count == MOST_DOINGS) {
                first = (first + 1) % MOST_DOINGS;
                count--;
            }
            pairsAt(count).become(map);
            count++;
        }

        void takeBack(Pairs map) {
            if (count > 0) {
                count--;
                map.become(pairsAt(count));
            }
        }

        void forgetAll() {
            count = 0;
        }

        private Pairs pairsAt(int later) {
            return before[Math.floorMod(first + later, MOST_DOINGS)];
        }
    }

    /** A kept map, or none yet. */
    private static final class Slot {
        private final Pairs pairs = new Pairs();
        private boolean filled;

        Pairs pairs() {
            return pairs;
        }

        boolean isFilled() {
            return filled;
        }

        void fill(Pairs map) {
            pairs.become(map);
            filled = true;
        }
    }
}
