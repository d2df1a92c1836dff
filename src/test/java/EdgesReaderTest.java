import java.util.List;

/** Each boundary case that the document names for the reader (promises 13 to 24): a test each. */
public final class EdgesReaderTest {
    private static final Check CHECK = new Check("EdgesReaderTest");
    private static final int UNKNOWN = -1, BAD = -2, LATE = -3, FULL = -4, NONE = -9;
    private static final int FINE = 0, SHORT = 1, LONG = 2, KEY = 3, RANK = 4, HIDDEN = 5, ROOT = 6, STALE = 7;
    private static final int MOST = Integer.MAX_VALUE, LEAST = Integer.MIN_VALUE;
    private static final int[] NO_ITEMS = {-1, -99, -10100, LEAST};
    private static final int[] ITEMS = {-10099, -100, 0, 1, MOST};

    public static void main(String[] args) {
        rangesAreTaken();
        rangesAreRefused();
        sendOfNoKeys();
        sendOfFortyKeys();
        sendInPlaceOfAFullRow();
        tellTakesItems();
        tellRefusesNoItems();
        aRowOfHundred();
        alterTakesItems();
        alterTakesPlacesOfTheRow();
        cutTakesNoneToAll();
        cutOfHundred();
        cutOfNone();
        trustOfNoKeys();
        trustOfTheSame();
        eightAreFormer();
        believeTakesZeroOrMore();
        readOfNone();
        readEndsShort();
        readOfHundredItemsShort();
        readOfHundredItemsLong();
        readOf49Nodes();
        readKeyAtTheBorders();
        readKeyOfOneNumber();
        readKeyWithoutNumbers();
        readKeyBeforeRank();
        readRankBesideOneAnother();
        readHiddenAtTheBorders();
        readHiddenOfOneNumber();
        readHiddenLeastAndGreatestDigest();
        readReasonsAsTheyAreMet();
        readLongBeforeTheDigest();
        readStaleUpToTheEighth();
        readFineThoughFormer();
        readOfNoTree();
        readIsByTheDigestAlone();
        learntTakesZeroToFour();
        learntAtTheEnds();
        learntNeighbours();
        learntOfNoNodes();
        learntIsLateForEachReason();
        foundPlaces();
        foundLeastAndGreatest();
        stepTakesKeysAndValues();
        stepRefusesTheFirstBeyond();
        stepByNumbersBesideTheKey();
        stepOfTheLeastKey();
        stepOfTheGreatestKey();
        stepIsLateForEachReason();
        stepIsUnknownWithoutTheKey();
        stepToNoTreeAndFromNone();
        stepBeyondFortyKeys();
        stepKeepsNothingOfAnotherRow();
        stepLeavesTheReader();
        followOfTheSameDigest();
        followWithEightFormer();
        followIsRefusedLikewise();
        formerPlaces();
        readerIsNotChangedByDoings();
        CHECK.finish();
    }

    private static void due(String call, long got, long want) {
        CHECK.due(call, got, want);
    }

    private static int item(int key) {
        return Words.nodeItem(key, 1);
    }

    private static int digest(int key, int left, int right) {
        return Words.digest(key, 1, left, right);
    }

    private static void dueReason(String row, int reason, int a, int b, int... items) {
        due("read(" + a + ", " + b + ") of " + row, Words.told(items).read(a, b), reason);
    }

    private static BorderProofs believed(int digest, int... items) {
        BorderProofs x = Words.told(items);
        x.believe(digest);
        return x;
    }

    private static BorderProofs toldAll(List<Integer> items) {
        return Words.told(items.stream().mapToInt(Integer::intValue).toArray());
    }

    // ---- "A RANGE is a .. b (0 <= a <= b <= 99)."

    private static void rangesAreTaken() {
        BorderProofs x = Words.with(40);
        x.trust();
        for (int[] range : EdgesProofTest.RANGES) {
            int a = range[0];
            int b = range[1];
            due("send(" + a + ", " + b + ")", x.send(a, b), 3);
            due("read(" + a + ", " + b + ")", x.read(a, b), FINE);
            due("learnt(" + a + ", " + b + ", 4)", x.learnt(a, b, 4), 1);
            due("found(" + a + ", " + b + ", 1)", x.found(a, b, 1), NONE);
        }
    }

    private static void rangesAreRefused() {
        BorderProofs x = Words.with(40);
        x.trust();
        x.send(0, 99);
        for (int[] range : EdgesProofTest.NO_RANGES) {
            int a = range[0];
            int b = range[1];
            due("send(" + a + ", " + b + ")", x.send(a, b), BAD);
            due("read(" + a + ", " + b + ")", x.read(a, b), BAD);
            due("learnt(" + a + ", " + b + ", 4)", x.learnt(a, b, 4), BAD);
            due("found(" + a + ", " + b + ", 0)", x.found(a, b, 0), BAD);
        }
    }

    // ---- promises 13 to 16: the row

    private static void sendOfNoKeys() {
        BorderProofs x = new BorderProofs();
        due("send(0, 0)", x.send(0, 0), 1);
        due("about(5)", x.about(5), 1);
        due("alter(0, 0)", x.alter(0, 0), 0);
    }

    private static void sendOfFortyKeys() {
        BorderProofs x = Words.forty(60);
        due("send(0, 99)", x.send(0, 99), 81);
        List<Integer> items = Words.itemsOfAll(60, 99, 1);
        for (int place = 0; place < 81; place++) {
            due("the item of " + place, x.alter(place, 0), items.get(place));
        }
        due("no more", x.alter(81, 0), UNKNOWN);
    }

    /** Nothing is left of the row that was there. */
    private static void sendInPlaceOfAFullRow() {
        BorderProofs x = new BorderProofs();
        for (int many = 1; many <= 100; many++) {
            x.tell(5);
        }
        x.put(0, 0);
        due("send(0, 99)", x.send(0, 99), 3);
        due("about(5)", x.about(5), 3);
        due("alter(3, 0)", x.alter(3, 0), UNKNOWN);
        due("tell(9)", x.tell(9), 4);
        due("alter(0, 0)", x.alter(0, 0), -100);
        due("alter(3, 0)", x.alter(3, 0), 9);
    }

    private static void tellTakesItems() {
        for (int item : ITEMS) {
            BorderProofs x = new BorderProofs();
            due("tell(" + item + ")", x.tell(item), 1);
            due("it is there", x.alter(0, 0), item);
        }
    }

    /** "less than -10099, or from -99 to -1". */
    private static void tellRefusesNoItems() {
        for (int item : NO_ITEMS) {
            due("tell(" + item + ")", new BorderProofs().tell(item), BAD);
        }
        for (int item = -99; item < 0; item++) {
            due("tell(" + item + ")", new BorderProofs().tell(item), BAD);
        }
    }

    /** "FULL: there are 100." */
    private static void aRowOfHundred() {
        BorderProofs x = new BorderProofs();
        for (int many = 1; many <= 100; many++) {
            due("tell of the item " + many, x.tell(many), many);
        }
        for (int item : ITEMS) {
            due("tell(" + item + ") of a 101st", x.tell(item), FULL);
        }
        due("about(5)", x.about(5), 100);
        due("the last one", x.alter(99, 0), 100);
        due("the first one", x.alter(0, 0), 1);
        due("a 101st place", x.alter(100, 0), UNKNOWN);
    }

    private static void alterTakesItems() {
        BorderProofs x = Words.told(7);
        int was = 7;
        for (int item : ITEMS) {
            due("alter(0, " + item + ")", x.alter(0, item), was);
            was = item;
        }
        for (int item : NO_ITEMS) {
            due("alter(0, " + item + ")", x.alter(0, item), BAD);
        }
        due("it is as it was", x.alter(0, 0), MOST);
    }

    /** "UNKNOWN: place". */
    private static void alterTakesPlacesOfTheRow() {
        BorderProofs x = Words.told(5, 6, 7);
        due("alter(0, 0)", x.alter(0, 0), 5);
        due("alter(2, 0)", x.alter(2, 0), 7);
        for (int place : new int[] {-1, 3, 99, 100, LEAST, MOST}) {
            due("alter(" + place + ", 0)", x.alter(place, 0), UNKNOWN);
        }
        for (int place : new int[] {-1, 0, 1}) {
            due("none: alter(" + place + ", 0)", new BorderProofs().alter(place, 0), UNKNOWN);
        }
    }

    /** "0 .. as many as there are". */
    private static void cutTakesNoneToAll() {
        due("cut(3) of 3", Words.told(5, 6, 7).cut(3), 3);
        due("cut(0) of 3", Words.told(5, 6, 7).cut(0), 3);
        for (int n : new int[] {-1, 4, 100, LEAST, MOST}) {
            due("cut(" + n + ") of 3", Words.told(5, 6, 7).cut(n), BAD);
        }
        BorderProofs x = Words.told(5, 6, 7);
        x.cut(3);
        due("all are left", x.about(5), 3);
        x.cut(1);
        due("the first one is left", x.alter(0, 0), 5);
        due("the second is not", x.alter(1, 0), UNKNOWN);
        due("what was cut can not come again", x.cut(2), BAD);
    }

    private static void cutOfHundred() {
        BorderProofs x = new BorderProofs();
        for (int many = 1; many <= 100; many++) {
            x.tell(many);
        }
        due("cut(101)", x.cut(101), BAD);
        due("cut(100)", x.cut(100), 100);
        due("it is still full", x.tell(0), FULL);
        due("cut(99)", x.cut(99), 100);
        due("then there is room", x.tell(0), 100);
        due("for one", x.tell(0), FULL);
        due("cut(0)", x.cut(0), 100);
        due("about(5)", x.about(5), 0);
    }

    private static void cutOfNone() {
        BorderProofs x = new BorderProofs();
        due("cut(0)", x.cut(0), 0);
        due("cut(1)", x.cut(1), BAD);
        due("cut(-1)", x.cut(-1), BAD);
    }

    // ---- promises 17 and 18: what is trusted

    private static void trustOfNoKeys() {
        BorderProofs x = new BorderProofs();
        x.believe(7);
        due("trust()", x.trust(), 2);
        due("about(6)", x.about(6), 0);
        due("former(0)", x.former(0), 7);
        due("former(1)", x.former(1), 0);
    }

    /** "what it TRUSTED is FORMER, the last one": also if that is the same. */
    private static void trustOfTheSame() {
        BorderProofs x = new BorderProofs();
        for (int many = 1; many <= 8; many++) {
            due("trust()", x.trust(), many);
            due("former(" + (many - 1) + ")", x.former(many - 1), 0);
            due("former(" + many + ")", x.former(many), UNKNOWN);
        }
        due("a ninth", x.trust(), 8);
    }

    /** "8 at most, the last ones". */
    private static void eightAreFormer() {
        BorderProofs x = new BorderProofs();
        for (int digest = 1; digest <= 8; digest++) {
            due("believe(" + digest + ")", x.believe(digest), digest);
        }
        due("the first is there", x.former(7), 0);
        due("believe(9)", x.believe(9), 8);
        due("about(7)", x.about(7), 8);
        for (int place = 0; place < 8; place++) {
            due("former(" + place + ")", x.former(place), 8 - place);
        }
        due("the first is forgotten", x.former(8), UNKNOWN);
        due("trust() forgets likewise", x.trust(), 8);
        due("former(0)", x.former(0), 9);
        due("former(7)", x.former(7), 2);
    }

    /** "BAD: digest (0 or more)". */
    private static void believeTakesZeroOrMore() {
        for (int digest : new int[] {0, 1, MOST}) {
            BorderProofs x = new BorderProofs();
            due("believe(" + digest + ")", x.believe(digest), 1);
            due("about(6)", x.about(6), digest);
        }
        for (int digest : new int[] {-1, NONE, LEAST}) {
            due("believe(" + digest + ")", new BorderProofs().believe(digest), BAD);
        }
    }

    // ---- promise 19: why a row is not believed

    private static void readOfNone() {
        dueReason("none", SHORT, 0, 0);
        dueReason("none", SHORT, 99, 99);
        dueReason("none", SHORT, 0, 99);
        BorderProofs x = Words.told(0);
        x.cut(0);
        due("read(0, 99) of what was cut to none", x.read(0, 99), SHORT);
    }

    /** "an ITEM is wanted, there is none more": a proof that is cut anywhere is short. */
    private static void readEndsShort() {
        BorderProofs x = Words.with(24, 25, 26, 40, 45);
        x.trust();
        int many = x.send(0, 99);
        due("the whole", x.read(0, 99), FINE);
        for (int n = many - 1; n >= 0; n--) {
            x.cut(n);
            due("the first " + n, x.read(0, 99), SHORT);
        }
    }

    /** 50 nodes have 101 items: the last one finds no room. */
    private static void readOfHundredItemsShort() {
        List<Integer> items = Words.itemsOfAll(0, 49, 1);
        due("items", items.size(), 101);
        BorderProofs x = toldAll(items.subList(0, 100));
        due("about(5)", x.about(5), 100);
        due("read(0, 99)", x.read(0, 99), SHORT);
        due("the 101st", x.tell(items.get(100)), FULL);
    }

    private static void readOfHundredItemsLong() {
        BorderProofs x = toldAll(Words.itemsOfAll(0, 48, 1));
        x.believe(Words.digestOfAll(0, 48, 1));
        due("99 items", x.read(0, 99), FINE);
        x.tell(0);
        due("100 items", x.read(0, 99), LONG);
        BorderProofs y = new BorderProofs();
        for (int many = 1; many <= 100; many++) {
            y.tell(0);
        }
        due("100 times 0", y.read(0, 99), LONG);
    }

    /** The row may show more nodes than the map may have keys. */
    private static void readOf49Nodes() {
        BorderProofs x = toldAll(Words.itemsOfAll(51, 99, 99));
        x.believe(Words.digestOfAll(51, 99, 99));
        due("read(0, 99)", x.read(0, 99), FINE);
        due("learnt(0, 99, 0)", x.learnt(0, 99, 0), 49);
        due("learnt(0, 99, 1)", x.learnt(0, 99, 1), 4851);
        due("learnt(0, 99, 4)", x.learnt(0, 99, 4), 49);
        due("found(0, 99, 48)", x.found(0, 99, 48), 9999);
        due("found(0, 99, 49)", x.found(0, 99, 49), NONE);
    }

    /** The least and the greatest number in borders, and the first beyond: 41 .. 99, then 0 .. 39. */
    private static void readKeyAtTheBorders() {
        dueReason("0 alone", ROOT, 50, 50, item(0), 0, 0);
        dueReason("99 alone", ROOT, 50, 50, item(99), 0, 0);
        dueReason("41 right of 40", ROOT, 0, 0, item(40), 0, item(41), 0, 0);
        dueReason("40 right of 40", KEY, 0, 0, item(40), 0, item(40), 0, 0);
        dueReason("99 right of 40", ROOT, 0, 0, item(40), 0, item(99), 0, 0);
        dueReason("39 left of 40", ROOT, 0, 0, item(40), item(39), 0, 0, 0);
        dueReason("40 left of 40", KEY, 0, 0, item(40), item(40), 0, 0, 0);
        dueReason("0 left of 40", ROOT, 0, 0, item(40), item(0), 0, 0, 0);
    }

    /** 26 above 24; to its right 25 alone may be. */
    private static void readKeyOfOneNumber() {
        dueReason("25 between 24 and 26", ROOT, 0, 0, item(26), item(24), 0, item(25), 0, 0, 0);
        dueReason("24 between 24 and 26", KEY, 0, 0, item(26), item(24), 0, item(24), 0, 0, 0);
        dueReason("26 between 24 and 26", KEY, 0, 0, item(26), item(24), 0, item(26), 0, 0, 0);
        dueReason("27 between 24 and 26", KEY, 0, 0, item(26), item(24), 0, item(27), 0, 0, 0);
        dueReason("a digest between 24 and 26", ROOT, 0, 0, item(26), item(24), 0, 5, 0);
    }

    /** "a DIGEST where there are no numbers in BORDERS"; 0 may stand there. */
    private static void readKeyWithoutNumbers() {
        for (int digest : new int[] {1, MOST}) {
            dueReason("a digest left of 0", KEY, 50, 50, item(0), digest, 0);
            dueReason("a digest left of 0", KEY, 0, 99, item(0), digest, 0);
            dueReason("a digest right of 99", KEY, 50, 50, item(99), 0, digest);
            dueReason("a digest right of 99", KEY, 99, 99, item(99), 0, digest);
            dueReason("a digest between 29 and 30", KEY, 50, 50, item(30), item(29), 0, digest, 0);
            dueReason("a digest between 29 and 30", KEY, 29, 30, item(30), item(29), 0, digest, 0);
        }
        dueReason("a node left of 0", KEY, 50, 50, item(0), item(0), 0, 0, 0);
        dueReason("a node right of 99", KEY, 50, 50, item(99), 0, item(99), 0, 0);
        dueReason("0 left of 0", ROOT, 50, 50, item(0), 0, 0);
        dueReason("0 right of 99", ROOT, 50, 50, item(99), 0, 0);
        dueReason("0 between 29 and 30", ROOT, 29, 30, item(30), item(29), 0, 0, 0);
    }

    /** "KEY is tested before RANK." */
    private static void readKeyBeforeRank() {
        dueReason("40 left of 30", KEY, 0, 0, item(30), item(40), 0, 0, 0);
        dueReason("26 right of 30", KEY, 0, 0, item(30), 0, item(26), 0, 0);
        dueReason("40 right of 30", RANK, 0, 0, item(30), 0, item(40), 0, 0);
        dueReason("26 left of 30", RANK, 0, 0, item(30), item(26), 0, 0, 0);
    }

    /** 60 (6139), 66 (6129), 61 (6127): the ranks that lie beside one another. */
    private static void readRankBesideOneAnother() {
        dueReason("66 on 60", ROOT, 0, 0, item(60), 0, item(66), 0, 0);
        dueReason("60 on 66", RANK, 0, 0, item(66), item(60), 0, 0, 0);
        dueReason("61 on 66", ROOT, 0, 0, item(66), item(61), 0, 0, 0);
        dueReason("66 on 61", RANK, 0, 0, item(61), 0, item(66), 0, 0);
        dueReason("88, the lowest of all, on none", ROOT, 0, 0, item(88), 0, 0);
        dueReason("42 on 88", RANK, 0, 0, item(88), item(42), 0, 0, 0);
    }

    /** "some number is in its BORDERS and in the RANGE": of 0 .. 39 and of 41 .. 99. */
    private static void readHiddenAtTheBorders() {
        int[] left = {item(40), 5, 0};
        int[][] hidden = {{0, 0}, {39, 39}, {39, 40}, {39, 99}, {10, 20}, {0, 39}, {0, 99}};
        for (int[] range : hidden) {
            dueReason("0 .. 39 hidden", HIDDEN, range[0], range[1], left);
        }
        dueReason("0 .. 39 hidden", ROOT, 40, 40, left);
        dueReason("0 .. 39 hidden", ROOT, 40, 99, left);
        int[] right = {item(40), 0, 5};
        int[][] alsoHidden = {{41, 41}, {99, 99}, {40, 41}, {0, 41}, {50, 60}, {41, 99}, {0, 99}};
        for (int[] range : alsoHidden) {
            dueReason("41 .. 99 hidden", HIDDEN, range[0], range[1], right);
        }
        dueReason("41 .. 99 hidden", ROOT, 40, 40, right);
        dueReason("41 .. 99 hidden", ROOT, 0, 40, right);
    }

    private static void readHiddenOfOneNumber() {
        int[] row = {item(26), item(24), 0, 5, 0};
        dueReason("25 .. 25 hidden", HIDDEN, 25, 25, row);
        dueReason("25 .. 25 hidden", HIDDEN, 24, 25, row);
        dueReason("25 .. 25 hidden", HIDDEN, 25, 26, row);
        dueReason("25 .. 25 hidden", HIDDEN, 0, 99, row);
        dueReason("25 .. 25 hidden", ROOT, 0, 24, row);
        dueReason("25 .. 25 hidden", ROOT, 26, 99, row);
    }

    private static void readHiddenLeastAndGreatestDigest() {
        for (int digest : new int[] {1, MOST}) {
            for (int[] range : EdgesProofTest.RANGES) {
                dueReason("a digest alone", HIDDEN, range[0], range[1], digest);
            }
            BorderProofs x = believed(digest(40, digest, 0), item(40), digest, 0);
            due("its digest is the item", x.read(40, 99), FINE);
            BorderProofs y = believed(digest, digest);
            due("a trusted digest alone shows nothing", y.read(0, 0), HIDDEN);
        }
    }

    /** "the first of these that is met", item by item. */
    private static void readReasonsAsTheyAreMet() {
        dueReason("HIDDEN, KEY", HIDDEN, 0, 0, item(40), 5, item(30), 0, 0);
        dueReason("KEY, HIDDEN", KEY, 99, 99, item(40), item(50), 0, 0, 5);
        dueReason("HIDDEN, RANK", HIDDEN, 0, 0, item(30), 5, item(40), 0, 0);
        dueReason("RANK, HIDDEN", RANK, 99, 99, item(30), item(26), 0, 0, 5);
        dueReason("KEY, RANK", KEY, 0, 0, item(30), item(31), 0, 0, item(40), 0, 0);
        dueReason("RANK, KEY", RANK, 0, 0, item(30), item(26), 0, 0, item(29), 0, 0);
        dueReason("KEY, SHORT", KEY, 0, 0, item(40), item(41));
        dueReason("RANK, SHORT", RANK, 0, 0, item(30), 0, item(40));
        dueReason("HIDDEN, SHORT", HIDDEN, 0, 0, item(40), 5);
        dueReason("KEY, LONG", KEY, 0, 0, item(40), item(41), 0, 0, 0, 0);
        dueReason("RANK, LONG", RANK, 0, 0, item(30), 0, item(40), 0, 0, 0);
        dueReason("HIDDEN, LONG", HIDDEN, 0, 0, 5, 0);
    }

    /** LONG is told before what is told of the digest, whatever comes behind. */
    private static void readLongBeforeTheDigest() {
        for (int more : ITEMS) {
            due("FINE, and " + more, Words.told(0, more).read(0, 99), LONG);
            due("STALE, and " + more, believed(7, 0, more).read(0, 99), LONG);
            BorderProofs x = Words.told(item(40), 0, 0, more);
            due("ROOT, and " + more, x.read(0, 99), LONG);
        }
    }

    /** "it is not TRUSTED, but FORMER", as long as it is one of the last 8. */
    private static void readStaleUpToTheEighth() {
        BorderProofs x = Words.told(item(40), 0, 0);
        due("none is FORMER", x.read(0, 99), ROOT);
        x.believe(digest(40, 0, 0));
        due("it is TRUSTED", x.read(0, 99), FINE);
        for (int digest = 1; digest <= 8; digest++) {
            x.believe(digest);
            due("it is FORMER, place " + (digest - 1), x.read(0, 99), STALE);
        }
        x.believe(9);
        due("it is FORMER no more", x.read(0, 99), ROOT);
    }

    private static void readFineThoughFormer() {
        BorderProofs x = Words.told(item(40), 0, 0);
        int digest = digest(40, 0, 0);
        x.believe(digest);
        x.believe(5);
        x.believe(digest);
        due("TRUSTED and FORMER", x.read(0, 99), FINE);
        x.believe(digest);
        due("TRUSTED, and the last one FORMER", x.read(0, 99), FINE);
    }

    /** The digest of no tree is 0: FINE at first, STALE while that is FORMER, ROOT then. */
    private static void readOfNoTree() {
        BorderProofs x = Words.told(0);
        for (int[] range : EdgesProofTest.RANGES) {
            due("0 is TRUSTED", x.read(range[0], range[1]), FINE);
        }
        for (int digest = 1; digest <= 8; digest++) {
            x.believe(digest);
            due("0 is FORMER", x.read(0, 99), STALE);
        }
        x.believe(9);
        due("0 is FORMER no more", x.read(0, 99), ROOT);
    }

    /** "that unlike TREES have unlike ones is not said": of two trees with one digest either is believed. */
    private static void readIsByTheDigestAlone() {
        BorderProofs x = new BorderProofs();
        Words.putChain(x, Words.LEAST_DIGEST);
        x.trust();
        for (int item : Words.chainItems(Words.LEAST_DIGEST_TOO)) {
            x.tell(item);
        }
        due("read(0, 99)", x.read(0, 99), FINE);
        due("the value that it is told, not that of the map", x.found(30, 30, 0), 3051);
        due("the map's", x.get(30), 56);
        x.believe(5);
        due("it was trusted before", x.read(0, 99), STALE);
    }

    // ---- promises 20 and 21: what is learnt

    private static void learntTakesZeroToFour() {
        BorderProofs x = Words.told(0);
        due("learnt(0, 99, 0)", x.learnt(0, 99, 0), 0);
        due("learnt(0, 99, 4)", x.learnt(0, 99, 4), 0);
        for (int what : new int[] {-1, 5, LEAST, MOST}) {
            due("learnt(0, 99, " + what + ")", x.learnt(0, 99, what), BAD);
        }
    }

    private static void learntAtTheEnds() {
        BorderProofs x = new BorderProofs();
        x.put(0, 3);
        x.put(50, 0);
        x.put(99, 5);
        x.trust();
        x.send(0, 99);
        int[][] due = {
            // a, b, keys, values, less, more
            {0, 0, 1, 3, NONE, 50}, {99, 99, 1, 5, 50, NONE}, {0, 99, 3, 8, NONE, NONE}, {1, 98, 1, 0, 0, 99},
            {1, 49, 0, 0, 0, 50}, {51, 98, 0, 0, 50, 99}, {0, 50, 2, 3, NONE, 99}, {50, 99, 2, 5, 0, NONE}};
        for (int[] of : due) {
            for (int what = 0; what < 4; what++) {
                due("learnt(" + of[0] + ", " + of[1] + ", " + what + ")", x.learnt(of[0], of[1], what), of[2 + what]);
            }
        }
    }

    /** "the greatest KEY of a NODE that is less than a, the least that is more than b": beside the range, not in it. */
    private static void learntNeighbours() {
        BorderProofs x = Words.with(24, 25, 26);
        x.trust();
        x.send(0, 99);
        due("1 less than a", x.learnt(25, 25, 2), 24);
        due("1 more than b", x.learnt(25, 25, 3), 26);
        due("a itself is none", x.learnt(24, 26, 2), NONE);
        due("b itself is none", x.learnt(24, 26, 3), NONE);
        due("the greatest of those", x.learnt(99, 99, 2), 26);
        due("the least of those", x.learnt(0, 0, 3), 24);
        x.send(26, 26);
        due("what is hidden is none", x.learnt(26, 26, 2), NONE);
    }

    private static void learntOfNoNodes() {
        int[] due = {0, 0, NONE, NONE, 0};
        for (int what = 0; what < 5; what++) {
            for (int[] range : EdgesProofTest.RANGES) {
                due("learnt of no tree, " + what, Words.told(0).learnt(range[0], range[1], what), due[what]);
            }
        }
        due("found of no tree", Words.told(0).found(0, 99, 0), NONE);
    }

    /** "LATE: it is not FINE", whatever the reason is. */
    private static void learntIsLateForEachReason() {
        for (BorderProofs x : oneForEachReason()) {
            for (int what = 0; what < 5; what++) {
                due("reason " + x.read(40, 42) + ": learnt(40, 42, " + what + ")", x.learnt(40, 42, what), LATE);
            }
            due("reason " + x.read(40, 42) + ": found(40, 42, 0)", x.found(40, 42, 0), LATE);
            due("reason " + x.read(40, 42) + ": found(40, 42, -1)", x.found(40, 42, -1), LATE);
        }
    }

    /** Read by 40 .. 42: SHORT, LONG, KEY, RANK, HIDDEN, ROOT, STALE. */
    private static BorderProofs[] oneForEachReason() {
        BorderProofs stale = believed(digest(41, 0, 0), item(41), 0, 0);
        stale.believe(5);
        BorderProofs[] all = {
            Words.told(item(41), 0), Words.told(0, 0), Words.told(item(41), item(42), 0, 0, 0),
            Words.told(item(41), item(40), 0, 0, 0), Words.told(5), Words.told(item(41), 0, 0), stale};
        for (int reason = 1; reason <= 7; reason++) {
            due("reason", all[reason - 1].read(40, 42), reason);
        }
        return all;
    }

    /** "a place (from 0, the least first)", "NONE: there are not so many". */
    private static void foundPlaces() {
        BorderProofs x = Words.with(26, 25, 24);
        x.trust();
        x.send(0, 99);
        due("found(0, 99, 0)", x.found(0, 99, 0), 2401);
        due("found(0, 99, 2)", x.found(0, 99, 2), 2601);
        due("found(0, 99, 3)", x.found(0, 99, 3), NONE);
        due("found(25, 25, 0)", x.found(25, 25, 0), 2501);
        due("found(25, 25, 1)", x.found(25, 25, 1), NONE);
        due("found(27, 99, 0)", x.found(27, 99, 0), NONE);
        due("found(0, 23, 0)", x.found(0, 23, 0), NONE);
        for (int place : new int[] {-1, LEAST, MOST, 100}) {
            due("found(0, 99, " + place + ")", x.found(0, 99, place), NONE);
        }
    }

    private static void foundLeastAndGreatest() {
        BorderProofs x = new BorderProofs();
        x.put(0, 0);
        x.put(99, 99);
        x.trust();
        x.send(0, 99);
        due("found(0, 0, 0)", x.found(0, 0, 0), 0);
        due("found(99, 99, 0)", x.found(99, 99, 0), 9999);
    }

    // ---- promises 22 and 23: steps

    private static void stepTakesKeysAndValues() {
        for (int key : new int[] {0, 1, 98, 99}) {
            for (int value : new int[] {0, 1, 98, 99}) {
                int after = Words.digest(key, value, 0, 0);
                due("step(" + key + ", " + value + ")", Words.told(0).step(key, value), after);
                BorderProofs x = Words.told(0);
                due("follow(" + key + ", " + value + ")", x.follow(key, value), 1);
                due("about(6)", x.about(6), after);
            }
        }
    }

    private static void stepRefusesTheFirstBeyond() {
        for (int key : new int[] {-1, 100, LEAST, MOST}) {
            for (int value : new int[] {0, 99, NONE}) {
                due("step(" + key + ", " + value + ")", Words.told(0).step(key, value), BAD);
                due("follow(" + key + ", " + value + ")", Words.told(0).follow(key, value), BAD);
            }
        }
        for (int value : new int[] {-1, -8, -10, 100, LEAST, MOST}) {
            for (int key : new int[] {0, 99}) {
                due("step(" + key + ", " + value + ")", Words.told(0).step(key, value), BAD);
                due("follow(" + key + ", " + value + ")", Words.told(0).follow(key, value), BAD);
            }
        }
    }

    /** "from 1 less than the KEY .. to 1 more": 0 .. 23 and 27 .. 99 are hidden. */
    private static void stepByNumbersBesideTheKey() {
        BorderProofs x = believed(digest(26, digest(24, 7, 0), 8), item(26), item(24), 7, 0, 8);
        int d25 = Words.digest(25, 5, 0, 0);
        due("step(25, 5): 24 .. 26 are shown", x.step(25, 5), digest(26, digest(24, 7, d25), 8));
        due("step(24, 5): 23 is hidden", x.step(24, 5), LATE);
        due("step(26, 5): 27 is hidden", x.step(26, 5), LATE);
        due("step(24, NONE)", x.step(24, NONE), LATE);
        due("step(26, NONE)", x.step(26, NONE), LATE);
        due("step(23, 5)", x.step(23, 5), LATE);
        due("step(27, 5)", x.step(27, 5), LATE);
        BorderProofs y = believed(digest(26, digest(24, 7, digest(25, 0, 0)), 8), item(26), item(24), 7, item(25), 0, 0, 8);
        due("step(25, NONE)", y.step(25, NONE), digest(26, digest(24, 7, 0), 8));
        due("step(25, 1), as it is", y.step(25, 1), y.about(6));
    }

    /** "(0, if that is less)": 0 .. 1 must be shown. */
    private static void stepOfTheLeastKey() {
        BorderProofs x = believed(digest(1, 0, 7), item(1), 0, 7);
        due("2 is hidden: step(0, 5)", x.step(0, 5), Words.digest(0, 5, 0, digest(1, 0, 7)));
        due("2 is hidden: step(1, 5)", x.step(1, 5), LATE);
        BorderProofs y = believed(digest(0, 0, 7), item(0), 0, 7);
        due("1 is hidden: step(0, 5)", y.step(0, 5), LATE);
        BorderProofs z = believed(digest(1, 7, 0), item(1), 7, 0);
        due("0 is hidden: step(0, 5)", z.step(0, 5), LATE);
        due("0 is hidden: step(1, 5)", z.step(1, 5), LATE);
        due("0 is hidden: step(2, 5)", z.step(2, 5), Words.digest(2, 5, digest(1, 7, 0), 0));
    }

    /** "(99, if that is more)": 98 .. 99 must be shown. */
    private static void stepOfTheGreatestKey() {
        BorderProofs x = believed(digest(98, 7, 0), item(98), 7, 0);
        due("97 is hidden: step(99, 5)", x.step(99, 5), digest(98, 7, Words.digest(99, 5, 0, 0)));
        due("97 is hidden: step(98, 5)", x.step(98, 5), LATE);
        BorderProofs y = believed(digest(99, 7, 0), item(99), 7, 0);
        due("98 is hidden: step(99, 5)", y.step(99, 5), LATE);
        BorderProofs z = believed(digest(98, 0, 7), item(98), 0, 7);
        due("99 is hidden: step(99, 5)", z.step(99, 5), LATE);
        due("99 is hidden: step(98, 5)", z.step(98, 5), LATE);
        due("99 is hidden: step(97, 5)", z.step(97, 5), digest(98, Words.digest(97, 5, 0, 0), 7));
    }

    /** "LATE: A ROW is not FINE", whatever the reason is. */
    private static void stepIsLateForEachReason() {
        for (BorderProofs x : oneForEachReason()) {
            for (int value : new int[] {0, 99, NONE}) {
                due("reason " + x.read(40, 42) + ": step(41, " + value + ")", x.step(41, value), LATE);
                due("reason " + x.read(40, 42) + ": follow(41, " + value + ")", x.follow(41, value), LATE);
            }
        }
    }

    /** "UNKNOWN: it had none", if it shall have none any more. */
    private static void stepIsUnknownWithoutTheKey() {
        for (int key : new int[] {0, 50, 99}) {
            due("no tree: step(" + key + ", NONE)", Words.told(0).step(key, NONE), UNKNOWN);
            due("no tree: follow(" + key + ", NONE)", Words.told(0).follow(key, NONE), UNKNOWN);
        }
        BorderProofs x = believed(digest(26, digest(24, 0, 0), 0), item(26), item(24), 0, 0, 0);
        due("step(25, NONE)", x.step(25, NONE), UNKNOWN);
        due("step(25, 0): it gets one", x.step(25, 0), digest(26, digest(24, 0, Words.digest(25, 0, 0, 0)), 0));
        x.put(25, 1);
        due("a key of the map alone", x.step(25, NONE), UNKNOWN);
        due("a key of the row alone", x.step(24, NONE), digest(26, 0, 0));
    }

    private static void stepToNoTreeAndFromNone() {
        for (int key : new int[] {0, 50, 99}) {
            BorderProofs x = believed(digest(key, 0, 0), item(key), 0, 0);
            due("the last one: step(" + key + ", NONE)", x.step(key, NONE), 0);
            due("follow(" + key + ", NONE)", x.follow(key, NONE), 2);
            due("about(6)", x.about(6), 0);
            x.cut(0);
            x.tell(0);
            due("the first one: step(" + key + ", 1)", x.step(key, 1), digest(key, 0, 0));
        }
    }

    /** FULL is not told of a step: the reader knows no map. */
    private static void stepBeyondFortyKeys() {
        BorderProofs x = toldAll(Words.itemsOfAll(0, 39, 1));
        x.believe(Words.digestOfAll(0, 39, 1));
        due("a 41st", x.step(40, 1), Words.digestOfAll(0, 40, 1));
        BorderProofs y = toldAll(Words.itemsOfAll(0, 48, 1));
        y.believe(Words.digestOfAll(0, 48, 1));
        due("a 50th", y.step(49, 1), Words.digestOfAll(0, 49, 1));
        due("48 are left", y.step(48, NONE), Words.digestOfAll(0, 47, 1));
    }

    /** What was hidden in a row that was read before, hangs nowhere in the next one. */
    private static void stepKeepsNothingOfAnotherRow() {
        BorderProofs x = Words.told(item(40), 7, 8);
        due("read(40, 40)", x.read(40, 40), ROOT);
        x.cut(0);
        x.tell(item(30));
        x.tell(0);
        x.tell(0);
        x.believe(digest(30, 0, 0));
        due("step(40, 1)", x.step(40, 1), digest(40, digest(30, 0, 0), 0));
        due("read(0, 99): a step changes no row", x.read(0, 99), FINE);
        due("step(40, 1) once more", x.step(40, 1), digest(40, digest(30, 0, 0), 0));
        due("learnt(0, 99, 0): nor what is learnt", x.learnt(0, 99, 0), 1);
    }

    /** "THE READER TRUSTS what it did." */
    private static void stepLeavesTheReader() {
        BorderProofs x = Words.told(0);
        x.step(5, 5);
        due("about(5)", x.about(5), 1);
        due("about(6)", x.about(6), 0);
        due("about(7)", x.about(7), 0);
        due("about(0)", x.about(0), 0);
        due("about(4)", x.about(4), 0);
    }

    private static void followOfTheSameDigest() {
        int digest = digest(40, 0, 0);
        BorderProofs x = believed(digest, item(40), 0, 0);
        due("follow(40, 1), as it is", x.follow(40, 1), 2);
        due("about(6)", x.about(6), digest);
        due("former(0)", x.former(0), digest);
        due("the row is fine", x.read(0, 99), FINE);
    }

    private static void followWithEightFormer() {
        BorderProofs x = Words.told(0);
        for (int digest = 8; digest >= 0; digest--) {
            x.believe(digest);
        }
        due("about(7)", x.about(7), 8);
        due("the eighth", x.former(7), 8);
        due("follow(0, 0)", x.follow(0, 0), 8);
        due("the last one", x.former(0), 0);
        due("the eighth", x.former(7), 7);
        due("about(6)", x.about(6), Words.digest(0, 0, 0, 0));
    }

    /** "BAD, LATE, UNKNOWN likewise": follow is refused as step is, and changes nothing then. */
    private static void followIsRefusedLikewise() {
        BorderProofs x = Words.told(0);
        for (int key : new int[] {-1, 0, 99, 100}) {
            for (int value : new int[] {-10, NONE, -1, 100}) {
                due("follow(" + key + ", " + value + ")", x.follow(key, value), x.step(key, value));
            }
        }
        due("about(6)", x.about(6), 0);
        due("about(7)", x.about(7), 0);
        due("about(5)", x.about(5), 1);
    }

    // ---- promise 24, and what does not change the reader

    /** "UNKNOWN": none, fewer than 8, 8. */
    private static void formerPlaces() {
        BorderProofs x = new BorderProofs();
        for (int many = 0; many <= 8; many++) {
            for (int place : new int[] {-1, many, many + 1, LEAST, MOST}) {
                due(many + " are FORMER: former(" + place + ")", x.former(place), UNKNOWN);
            }
            if (many > 0) {
                due(many + " are FORMER: former(0)", x.former(0), many - 1);
                due(many + " are FORMER: the last place", x.former(many - 1), 0);
            }
            x.believe(many + 1);
        }
    }

    /** "THE READER is not changed by DOINGS, undone ones, SLOTS." */
    private static void readerIsNotChangedByDoings() {
        BorderProofs x = Words.with(24, 26, 40);
        x.keep(0);
        x.believe(9);
        x.trust();
        x.send(25, 25);
        int items = x.about(5);
        int trusted = x.about(6);
        int[] answers = {x.put(25, 1), x.remove(40), x.scatter(20, 4), x.undo(), x.undo(), x.keep(1), x.again(0)};
        due("none was refused", answers[0] == NONE && answers[1] == 1 && answers[2] > 3 && answers[6] == 3 ? 1 : 0, 1);
        due("about(5)", x.about(5), items);
        due("about(6)", x.about(6), trusted);
        due("about(7)", x.about(7), 2);
        due("former(0)", x.former(0), 9);
        due("read(25, 25)", x.read(25, 25), FINE);
    }
}
