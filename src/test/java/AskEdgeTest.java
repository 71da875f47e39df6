import java.math.BigInteger;

/**
 * The document's sentences on what is asked of rows, windows, braids and draws that name a bound:
 * just inside it and just beyond. Each test bears the sentence it is of.
 */
public final class AskEdgeTest {
    private static final Check CHECK = new Check("AskEdgeTest");
    private static final int FAR = Integer.MAX_VALUE;
    private static final int DEEP = Integer.MIN_VALUE;
    private static final int[] NO_ROWS = {-1, -2, 2, 3, 4, 5, FAR, FAR - 1, DEEP, DEEP + 1};
    private static final int[] NO_BRAIDS = {-1, -2, 4, 7, 8, 9, FAR, DEEP};
    private static final int[] NO_STRANDS = {-1, -2, 11, 20, FAR, FAR - 1, DEEP, DEEP + 1};
    private static final int[] PLACES = {DEEP, DEEP + 1, -32, -2, -1, 0, 1, 2, 3, 4, 20, 21, FAR - 1, FAR};

    private static final String ALIKE = " 5 5 5 5 5 5 5 5 5 5 5 5 5 5 5 5 5 5 5 5;";
    /** Falling, but for the last one, which is more than the one ahead of it alone. */
    private static final String LATE = "row a strict 40 38 36 34 32 30 28 26 24 22 20 18 16 14 12 10 8 6 4 5;";
    private static final String BRAIDS = "braid i 0 1 2 3 4 5 6 7 8 9;braid r 9 8 7 6 5 4 3 2 1 0;"
            + "braid c 1 2 3 4 5 6 7 8 9 0;braid o 0;";

    private interface Ask {
        int of(ChainIndex x, int row, int from, int to);
    }

    private static void due(String call, long got, long want) {
        CHECK.due(call, got, want);
    }

    private static void due(String call, boolean got, boolean want) {
        CHECK.due(call, got, want);
    }

    // ---- "A WINDOW from i to j: PLACES i to j - 1 (0 to as many as there are; i no more than j)." ----

    private static void askAllWindows(String call, Ask ask, int none) {
        for (int row = 0; row < 2; row++) {
            ChainIndex x = Check.told("row a weak 1 2 3;row b strict 7;");
            int many = row == 0 ? 3 : 1;
            for (int from : PLACES) {
                for (int to : PLACES) {
                    boolean isWindow = 0 <= from && from <= to && to <= many;
                    due(call + " " + row + " " + from + " " + to, ask.of(x, row, from, to) != none, isWindow);
                }
            }
        }
        ChainIndex y = Check.told("row a weak 1 2 3;row b strict 7;");
        for (int row : NO_ROWS) {
            due(call + " in " + row, ask.of(y, row, 0, 0), none);
            due(call + " in " + row, ask.of(y, row, 0, 1), none);
        }
        due(call + ": not yet", ask.of(y, 0, 0, 4), none);
        y.append(0, 4);
        due(call + ": behind an append", ask.of(y, 0, 0, 4) != none, true);
        y.cut(0);
        due(call + ": behind a cut", ask.of(y, 0, 0, 4), none);
        ChainIndex z = Check.told("row a weak" + ALIKE);
        due(call + " of twenty", ask.of(z, 0, 0, 20) != none, true);
        due(call + " at the end", ask.of(z, 0, 20, 20) != none, true);
        due(call + " of 21", ask.of(z, 0, 0, 21), none);
        due(call + " behind the end", ask.of(z, 0, 21, 21), none);
    }

    private static void aWindowLiesInItsRow() {
        askAllWindows("chain", (x, row, from, to) -> x.chain(row, from, to), -1);
        askAllWindows("ways", (x, row, from, to) -> x.ways(row, from, to), -1);
        askAllWindows("must", (x, row, from, to) -> x.must(row, from, to), -1);
        askAllWindows("may", (x, row, from, to) -> x.may(row, from, to), -1);
        askAllWindows("bare", (x, row, from, to) -> x.bare(row, from, to), -1);
        askAllWindows("under", (x, row, from, to) -> x.under(row, from, to), -1);
        askAllWindows("piles", (x, row, from, to) -> x.piles(row, from, to, -1), -2);
        askAllWindows("shape 0", (x, row, from, to) -> x.shape(row, from, to, 0), -1);
        askAllWindows("shape 20", (x, row, from, to) -> x.shape(row, from, to, 20), -1);
        askAllWindows("common", (x, row, from, to) -> x.common(0, row, from, to), -1);
        // A window of no places has no first place, so pick answers as for one that is none.
        for (int from : PLACES) {
            for (int to : PLACES) {
                ChainIndex x = Check.told("row a weak 1 2 3;");
                boolean any = 0 <= from && from < to && to <= 3;
                due("pick " + from + " " + to, x.pick(0, from, to, 0), any ? from : -1);
            }
        }
    }

    // ---- "Of a ROW, what 0: KIND (0 strict, 1 weak, 2 down, 3 sink), 1: how many; NONE: others." ----

    private static void ofARowTwoThingsAreTold() {
        ChainIndex x = Check.told("row a sink 1 2 3;row b strict" + ALIKE);
        due("kind", x.row(0, 0), 3);
        due("kind 0", x.row(1, 0), 0);
        due("many", x.row(0, 1), 3);
        due("twenty", x.row(1, 1), 20);
        for (int what : new int[] {-1, -2, 2, 3, FAR, DEEP}) due("what " + what, x.row(0, what), -1);
        for (int row : NO_ROWS) {
            due("row " + row, x.row(row, 0), -1);
            due("row " + row, x.row(row, 1), -1);
        }
        ChainIndex y = Check.told("row a weak 1;row b weak 1;row c weak 1;row d down 1;");
        due("the fourth", y.row(3, 0), 2);
        due("no fifth", y.row(4, 0), -1);
    }

    // ---- "The NUMBER of a PLACE; NONE: others.", "WEIGHT; NoSuchElementException: others." ----

    private static void aPlaceIsFromZeroOn() {
        ChainIndex x = Check.told("row a weak 7 8 9;row b weak 5;weighs number + 1;");
        for (int place : PLACES) {
            boolean there = place >= 0 && place < 3;
            due("item " + place, x.item(0, place), there ? 7 + place : -1);
            due("weight " + place, Check.weight(x, 0, place), there ? 8 + place : Long.MIN_VALUE);
        }
        for (int row : NO_ROWS) {
            due("item of " + row, x.item(row, 0), -1);
            due("weight of " + row, Check.weight(x, row, 0), Long.MIN_VALUE);
        }
        due("one place", x.item(1, 0), 5);
        due("no second", x.item(1, 1), -1);
        due("no second", Check.weight(x, 1, 1), Long.MIN_VALUE);
        x.append(1, 6);
        due("a second", x.item(1, 1), 6);
        due("a second", Check.weight(x, 1, 1), 7);
        x.cut(1);
        due("gone", x.item(1, 1), -1);
        due("gone", Check.weight(x, 1, 1), Long.MIN_VALUE);
        ChainIndex y = Check.told("row a weak" + ALIKE);
        due("the 20th", y.item(0, 19), 5);
        due("no 21st", y.item(0, 20), -1);
        due("no 21st", Check.weight(y, 0, 20), Long.MIN_VALUE);
    }

    // ---- "if its WEIGHT is more (strict), no less (weak), less (down), no more (sink)" ----
    // ---- "LONG of a WINDOW: how many PLACES its longest CHAIN has.", "BARE of a WINDOW: how many PLACES of it LONG leaves." ----

    private static void longGoesFromNoPlacesToTwenty() {
        ChainIndex x = Check.told("row a weak" + ALIKE + "row b strict" + ALIKE + "row c down" + ALIKE + "row d sink" + ALIKE);
        for (int row = 0; row < 4; row++) {
            boolean alikeFollow = row == 0 || row == 3;
            for (int at = 0; at <= 20; at += 10) due("of no places", x.chain(row, at, at), 0);
            due("of one", x.chain(row, 19, 20), 1);
            due("of two alike", x.chain(row, 0, 2), alikeFollow ? 2 : 1);
            due("of twenty alike", x.chain(row, 0, 20), alikeFollow ? 20 : 1);
            due("bare", x.bare(row, 0, 20), alikeFollow ? 0 : 19);
            due("bare of one", x.bare(row, 0, 1), 0);
            due("bare of none", x.bare(row, 20, 20), 0);
        }
        ChainIndex y = Check.told("row a strict 1 2;row b weak 1 2;row c down 1 2;row d sink 1 2;");
        for (int row = 0; row < 4; row++) {
            due("one more", y.chain(row, 0, 2), row < 2 ? 2 : 1);
            y.turn(row);
            due("one less", y.chain(row, 0, 2), row < 2 ? 1 : 2);
        }
    }

    // ---- "PICK: the i-th of that one of the longest whose PLACES are the first", "NONE: others, none such." ----

    private static void aPickIsOfZeroToOneLessThanLong() {
        ChainIndex x = Check.told("row a weak" + ALIKE + "row b strict" + ALIKE);
        for (int i = 0; i < 20; i++) due("pick " + i, x.pick(0, 0, 20, i), i);
        for (int i : new int[] {-1, -2, 20, 21, FAR, DEEP}) due("pick " + i, x.pick(0, 0, 20, i), -1);
        due("the first of equal ones", x.pick(1, 0, 20, 0), 0);
        due("the first of the window", x.pick(1, 7, 20, 0), 7);
        due("no second", x.pick(1, 0, 20, 1), -1);
        due("of no places", x.pick(0, 20, 20, 0), -1);
        due("of no places", x.pick(0, 0, 0, -1), -1);
        for (int row : NO_ROWS) due("row " + row, x.pick(row, 0, 1, 0), -1);
        ChainIndex y = Check.told(LATE);
        due("the last two", y.pick(0, 0, 20, 0), 18);
        due("the last two", y.pick(0, 0, 20, 1), 19);
        due("no third", y.pick(0, 0, 20, 2), -1);
        due("without the last", y.pick(0, 0, 19, 0), 0);
    }

    // ---- "WAYS: how many longest ones there are (2000000000 at most; of no PLACES: one)." ----

    private static void thereIsOneWayOfNoPlaces() {
        ChainIndex x = Check.told("row a strict" + ALIKE + "row b weak" + ALIKE + "row c strict 7;");
        for (int at = 0; at <= 20; at++) due("of no places at " + at, x.ways(0, at, at), 1);
        due("of one", x.ways(2, 0, 1), 1);
        due("behind it", x.ways(2, 1, 1), 1);
        due("of twenty alike, each one", x.ways(0, 0, 20), 20);
        due("of twenty alike, all in one", x.ways(1, 0, 20), 1);
        // Six threes and a two are the most ways that twenty places can have: far below 2000000000.
        ChainIndex y = Check.told("row a strict 2 1 0 5 4 3 8 7 6 11 10 9 14 13 12 17 16 15 19 18;");
        due("as many as can be", y.ways(0, 0, 20), 1458);
    }

    // ---- "MUST: PLACES through which all of these go, MAY: through which any goes (bits, bit PLACE)." ----

    private static void placesAreBitsZeroToNineteen() {
        int all = (1 << 20) - 1;
        ChainIndex x = Check.told("row a weak" + ALIKE + "row b strict" + ALIKE);
        due("must of all", x.must(0, 0, 20), all);
        due("may of all", x.may(0, 0, 20), all);
        due("must of any one", x.must(1, 0, 20), 0);
        due("may of any one", x.may(1, 0, 20), all);
        for (int row = 0; row < 2; row++) {
            due("must of the last", x.must(row, 19, 20), 1 << 19);
            due("may of the last", x.may(row, 19, 20), 1 << 19);
            due("must of the first", x.must(row, 0, 1), 1);
            due("may of the first", x.may(row, 0, 1), 1);
            for (int at = 0; at <= 20; at += 20) {
                due("must of no places", x.must(row, at, at), 0);
                due("may of no places", x.may(row, at, at), 0);
            }
        }
        due("bits by place, not by window", x.must(0, 3, 5), 8 + 16);
        ChainIndex y = Check.told(LATE);
        due("must", y.must(0, 0, 20), 3 << 18);
        due("may", y.may(0, 0, 20), 3 << 18);
        due("must without the last", y.must(0, 0, 19), 0);
        due("may without the last", y.may(0, 0, 19), all >> 1);
    }

    // ---- "STRAND of a PLACE a of a ROW: the PLACE b for which .. (0 if that is none), together, are 1." ----

    private static void aStrandEndsBehindItsPlace() {
        ChainIndex x = Check.told("row a strict" + ALIKE + "row b weak" + ALIKE);
        for (int place = 0; place < 19; place++) due("alike: the next one", x.strand(0, place), place + 1);
        due("the last place has none", x.strand(0, 19), -1);
        for (int place = 0; place < 20; place++) due("one chain has none", x.strand(1, place), -1);
        for (int place : new int[] {-1, 20, 21, FAR, FAR - 1, DEEP}) due("place " + place, x.strand(0, place), -1);
        for (int row : NO_ROWS) due("row " + row, x.strand(row, 0), -1);
        ChainIndex y = Check.told("row a strict 2 2;row b strict 7;row c down 1 2;");
        due("of two", y.strand(0, 0), 1);
        due("of two, the last", y.strand(0, 1), -1);
        due("of one", y.strand(1, 0), -1);
        due("of one, behind it", y.strand(1, 1), -1);
        due("of a falling row", y.strand(2, 0), 1);
        y.append(1, 7);
        due("grown", y.strand(1, 0), 1);
        y.cut(0);
        due("cut", y.strand(0, 0), -1);
    }

    // ---- "UNDER of a WINDOW: of how many PLACES in it the STRAND ends in it, too." ----

    private static void aStrandThatEndsAtTheWindowsEndIsNotInIt() {
        ChainIndex x = Check.told("row a strict" + ALIKE);
        for (int from = 0; from <= 20; from += 5) {
            for (int to = from; to <= 20; to++) {
                due("under " + from + " " + to, x.under(0, from, to), Math.max(to - from - 1, 0));
            }
        }
        ChainIndex y = Check.told("row a strict 2 4 1 3;");
        int[] ends = {3, 2, -1, -1};
        for (int place = 0; place < 4; place++) due("strand " + place, y.strand(0, place), ends[place]);
        due("one ends at the window's end", y.under(0, 0, 3), 1);
        due("both end in it", y.under(0, 0, 4), 2);
        due("one begins ahead of it", y.under(0, 1, 4), 1);
        due("just the strand", y.under(0, 1, 3), 1);
        due("both end behind it", y.under(0, 0, 2), 0);
        due("both begin ahead of it", y.under(0, 2, 4), 0);
        for (int place = 0; place < 4; place++) {
            for (int to = place; to <= 4; to++) due("as many as bare", y.under(0, place, to), y.bare(0, place, to));
        }
    }

    // ---- "HOW of a length: how many WINDOWS (those of no PLACES, from each i, too) have just that LONG." ----

    private static void howIsOfLengthsZeroToTwenty() {
        ChainIndex x = Check.told("row a weak" + ALIKE + "row b strict 7;");
        due("of no places, from each i", x.how(0, 0), 21);
        for (int length = 1; length <= 20; length++) due("how " + length, x.how(0, length), 21 - length);
        due("one number: of no places", x.how(1, 0), 2);
        due("one number: of one", x.how(1, 1), 1);
        due("one number: of two", x.how(1, 2), 0);
        due("one number: of twenty", x.how(1, 20), 0);
        for (int length : new int[] {-1, -2, 21, 22, FAR, DEEP}) due("how " + length, x.how(0, length), -1);
        for (int row : NO_ROWS) due("row " + row, x.how(row, 0), -1);
        ChainIndex y = Check.told(LATE);
        due("of no places", y.how(0, 0), 21);
        due("of one", y.how(0, 1), 191);
        due("of two", y.how(0, 2), 19);
    }

    // ---- "BEST of a width (0 to as many as there are)", "of equal ones the first" ----

    private static void bestIsOfWidthsZeroToAll() {
        ChainIndex x = Check.told("row a weak" + ALIKE + "row b strict 7;");
        for (int width = 0; width <= 20; width++) due("of equal ones the first", x.best(0, width), 0);
        for (int width : new int[] {-1, -2, 21, 22, FAR, FAR - 1, DEEP, DEEP + 1}) due("width " + width, x.best(0, width), -1);
        due("one number: 0", x.best(1, 0), 0);
        due("one number: 1", x.best(1, 1), 0);
        due("one number: 2", x.best(1, 2), -1);
        for (int row : NO_ROWS) due("row " + row, x.best(row, 0), -1);
        ChainIndex y = Check.told(LATE);
        due("the last of width 2", y.best(0, 2), 18);
        due("the last of width 3", y.best(0, 3), 17);
        due("of width 19", y.best(0, 19), 1);
        due("of width 20", y.best(0, 20), 0);
        due("of width 1", y.best(0, 1), 0);
        ChainIndex z = Check.told("row a strict 3 1 2 0 9;");
        due("the first of two", z.best(0, 2), 1);
        z.append(0, 9);
        due("all of a longer row", z.best(0, 6), 0);
        due("beyond it", z.best(0, 7), -1);
    }

    // ---- "NEAR of a length (0 to 20)", "the narrowest WINDOW whose LONG is that or more; of equal ones the first" ----

    private static void nearIsOfLengthsZeroToTwenty() {
        ChainIndex x = Check.told("row a weak" + ALIKE + "row b strict 7;");
        for (int length = 0; length <= 20; length++) due("from 0", x.near(0, length), length);
        for (int length : new int[] {-1, -2, 21, 22, FAR, DEEP}) due("near " + length, x.near(0, length), -1);
        due("one number: 0", x.near(1, 0), 0);
        due("one number: 1", x.near(1, 1), 1);
        due("one number: none", x.near(1, 2), -1);
        due("one number: none", x.near(1, 20), -1);
        for (int row : NO_ROWS) due("row " + row, x.near(row, 0), -1);
        ChainIndex y = Check.told(LATE);
        due("the last two", y.near(0, 2), 32 * 18 + 20);
        due("none", y.near(0, 3), -1);
        ChainIndex z = Check.told("row a strict 1 5 0 2 0 3;");
        due("the first of three", z.near(0, 2), 2);
        ChainIndex w = Check.told("row a strict 1 0 2 9 0 1 2;");
        due("the narrower one is later", w.near(0, 3), 32 * 1 + 4);
        due("narrower than those that come first", Check.told("row a strict 1 0 2 0 9 0 1 2;").near(0, 3), 32 * 5 + 8);
    }

    // ---- "PILES, place NONE: how many; else on which (from 0) that PLACE goes; -2: others, it is not in the WINDOW." ----

    private static void aPileIsOfAPlaceInTheWindow() {
        ChainIndex x = Check.told("row a weak" + ALIKE + "row b strict" + ALIKE);
        due("twenty piles", x.piles(0, 0, 20, -1), 20);
        due("one pile", x.piles(1, 0, 20, -1), 1);
        for (int place = 0; place < 20; place += 19) {
            due("each on its own", x.piles(0, 0, 20, place), place);
            due("all on one", x.piles(1, 0, 20, place), 0);
        }
        due("the window's first", x.piles(0, 3, 7, 3), 0);
        due("the window's last", x.piles(0, 3, 7, 6), 3);
        for (int place : new int[] {2, 7, 0, 19, 20, -2, -3, FAR, DEEP}) due("not in it " + place, x.piles(0, 3, 7, place), -2);
        for (int at = 0; at <= 20; at += 5) {
            due("of no places", x.piles(0, at, at, -1), 0);
            due("not in it", x.piles(0, at, at, at), -2);
        }
        for (int row : NO_ROWS) {
            due("row " + row, x.piles(row, 0, 0, -1), -2);
            due("row " + row, x.piles(row, 0, 1, 0), -2);
        }
        due("no window", x.piles(0, 0, 21, 0), -2);
        due("no window", x.piles(0, 5, 4, 4), -2);
        ChainIndex y = Check.told(LATE);
        due("two piles", y.piles(0, 0, 20, -1), 2);
        due("the first pile", y.piles(0, 0, 20, 18), 0);
        due("the second pile", y.piles(0, 0, 20, 19), 1);
        due("one pile", y.piles(0, 0, 19, -1), 1);
    }

    // ---- "SHAPE, i from 0 to 20; NONE: others." ----

    private static void aShapeHasRowsZeroToTwenty() {
        ChainIndex x = Check.told("row a weak" + ALIKE + "row b strict" + ALIKE);
        due("one row of twenty", x.shape(0, 0, 20, 0), 20);
        for (int i = 1; i <= 20; i++) due("no row " + i, x.shape(0, 0, 20, i), 0);
        for (int i = 0; i <= 19; i++) due("twenty rows of one", x.shape(1, 0, 20, i), 1);
        due("no 21st row", x.shape(1, 0, 20, 20), 0);
        for (int i : new int[] {-1, -2, 21, 22, FAR, DEEP}) {
            due("row " + i, x.shape(0, 0, 20, i), -1);
            due("row " + i + " of no places", x.shape(0, 0, 0, i), -1);
        }
        for (int i = 0; i <= 20; i += 20) {
            due("of no places", x.shape(0, 0, 0, i), 0);
            due("of no places", x.shape(1, 20, 20, i), 0);
        }
        for (int row : NO_ROWS) due("row " + row, x.shape(row, 0, 0, 0), -1);
        int[] lengths = {2, 1, 1, 0};
        ChainIndex z = Check.told("row a strict 4 1 3 2;");
        for (int i = 0; i < 4; i++) due("what is put out goes on", z.shape(0, 0, 4, i), lengths[i]);
        ChainIndex y = Check.told(LATE);
        due("two", y.shape(0, 0, 20, 0), 2);
        for (int i = 1; i <= 18; i++) due("one", y.shape(0, 0, 20, i), 1);
        due("none", y.shape(0, 0, 20, 19), 0);
    }

    // ---- "Of a BRAID, what 0: how many strands, 1: CROSSINGS, 2: MADE; NONE: others." ----

    private static void ofABraidThreeThingsAreTold() {
        ChainIndex x = Check.told(BRAIDS);
        int[] strands = {10, 10, 10, 1};
        int[] crossings = {0, 45, 9, 0};
        for (int braid = 0; braid < 4; braid++) {
            due("strands", x.braid(braid, 0), strands[braid]);
            due("crossings", x.braid(braid, 1), crossings[braid]);
            due("made", x.braid(braid, 2), braid);
            for (int what : new int[] {-1, -2, 3, 4, FAR, DEEP}) due("what " + what, x.braid(braid, what), -1);
        }
        for (int braid : NO_BRAIDS) {
            for (int what = 0; what <= 2; what++) due("braid " + braid, x.braid(braid, what), -1);
        }
        for (int i = 4; i <= 7; i++) x.keep(0, 0);
        due("the eighth", x.braid(7, 0), 10);
        due("no ninth", x.braid(8, 0), -1);
    }

    // ---- "ENDS of a BRAID and a strand (by where it begins): where it ends." ----

    private static void aStrandOfABraidIsFromZeroOn() {
        ChainIndex x = Check.told(BRAIDS);
        for (int strand = 0; strand < 10; strand++) {
            due("as told", x.ends(0, strand), strand);
            due("reversed", x.ends(1, strand), 9 - strand);
            due("composed", x.compose(0, 1, strand), 9 - strand);
            due("power", x.power(1, 20, strand), 9 - strand);
        }
        for (int strand : NO_STRANDS) {
            due("ends " + strand, x.ends(0, strand), -1);
            due("compose " + strand, x.compose(0, 1, strand), -1);
            due("power " + strand, x.power(0, 1, strand), -1);
        }
        due("no 11th", x.ends(0, 10), -1);
        due("no 11th", x.compose(0, 1, 10), -1);
        due("no 11th", x.power(0, 1, 10), -1);
        due("one strand", x.ends(3, 0), 0);
        due("one strand", x.compose(3, 3, 0), 0);
        due("one strand", x.power(3, 20, 0), 0);
        due("no second", x.ends(3, 1), -1);
        due("no second", x.compose(3, 3, 1), -1);
        due("no second", x.power(3, 1, 1), -1);
    }

    private static void noSuchBraidAnswersNone() {
        ChainIndex x = Check.told(BRAIDS);
        for (int braid : NO_BRAIDS) {
            due("ends", x.ends(braid, 0), -1);
            due("counts", x.counts(braid, 0, 0), -1);
            due("compose", x.compose(braid, 0, 0), -1);
            due("compose", x.compose(0, braid, 0), -1);
            due("compose", x.compose(braid, braid, 0), -1);
            due("power", x.power(braid, 1, 0), -1);
            due("settles", x.settles(braid), -1);
            due("knit", x.knit(braid, 0), -1);
            due("below", x.below(braid, 0), false);
            due("below", x.below(0, braid), false);
            due("below", x.below(braid, braid), false);
        }
    }

    // ---- "COUNT (0 to as many as there are); NONE: others." ----

    private static void countsAreOfZeroToAsManyAsThereAre() {
        ChainIndex x = Check.told(BRAIDS);
        due("all", x.counts(0, 0, 10), 10);
        due("none begin at 10", x.counts(0, 10, 10), 0);
        due("none end ahead of 0", x.counts(0, 0, 0), 0);
        due("the last one is the first", x.counts(1, 9, 1), 1);
        due("no other is", x.counts(1, 0, 1), 1);
        due("the last one ends at 9", x.counts(0, 9, 9), 0);
        due("the last one ends ahead of 10", x.counts(0, 9, 10), 1);
        for (int other : NO_STRANDS) {
            due("i " + other, x.counts(0, other, 0), -1);
            due("k " + other, x.counts(0, 0, other), -1);
            due("both " + other, x.counts(0, other, other), -1);
        }
        due("one strand", x.counts(3, 0, 1), 1);
        due("one strand", x.counts(3, 1, 1), 0);
        due("one strand", x.counts(3, 0, 0), 0);
        due("one strand: i 2", x.counts(3, 2, 0), -1);
        due("one strand: k 2", x.counts(3, 0, 2), -1);
    }

    // ---- "COMPOSE of two BRAIDS of as many strands", "NONE: others, not as many strands." ----

    private static void onlyAsManyStrandsCompose() {
        ChainIndex x = Check.told("braid a 1 0;braid b 0 1 2;braid c 0;braid d 2 0 1;");
        for (int one = 0; one < 4; one++) {
            for (int two = 0; two < 4; two++) {
                boolean alike = x.braid(one, 0) == x.braid(two, 0);
                due("compose " + one + " " + two, x.compose(one, two, 0) != -1, alike);
                if (!alike) due("below " + one + " " + two, x.below(one, two), false);
            }
        }
        ChainIndex y = Check.told(BRAIDS);
        for (int strand = 0; strand < 10; strand++) {
            due("what crosses nowhere changes nothing", y.compose(0, 2, strand), y.ends(2, strand));
            due("what crosses nowhere changes nothing", y.compose(2, 0, strand), y.ends(2, strand));
            due("what has crossed all stays", y.compose(1, 2, strand), 9 - strand);
            due("what has crossed all stays", y.compose(2, 1, strand), 9 - strand);
        }
    }

    // ---- "POWER of a BRAID: COMPOSED with itself, so often (1 to 20: 1 itself)." ----

    private static void aPowerIsOneToTwenty() {
        ChainIndex x = Check.told(BRAIDS);
        for (int strand = 0; strand < 10; strand++) {
            due("1: itself", x.power(2, 1, strand), x.ends(2, strand));
            due("2: composed", x.power(2, 2, strand), x.compose(2, 2, strand));
            due("9: all have crossed", x.power(2, 9, strand), 9 - strand);
            due("20: all have crossed", x.power(2, 20, strand), 9 - strand);
        }
        due("8: not yet all", x.power(2, 8, 0), 8);
        for (int often : new int[] {0, -1, 21, 22, FAR, DEEP}) {
            due("power " + often, x.power(2, often, 0), -1);
            due("power " + often + " of one strand", x.power(3, often, 0), -1);
        }
    }

    // ---- "SETTLES: the least one (1 to 20) that is the next one, too." ----

    private static void settlesIsTheLeastOne() {
        ChainIndex x = Check.told(BRAIDS);
        due("crossing nowhere", x.settles(0), 1);
        due("all crossed", x.settles(1), 1);
        // The longest way of ten strands; no braid needs more, so none is not settled by 20.
        due("round of ten", x.settles(2), 9);
        due("one strand", x.settles(3), 1);
        ChainIndex y = Check.told("braid a 1 2 0;braid b 1 0 2;braid c 1 2 3 0;braid d 3 0 1 2;");
        int[] due = {2, 1, 3, 3};
        for (int braid = 0; braid < 4; braid++) {
            int settled = y.settles(braid);
            due("settles", settled, due[braid]);
            due("the last end is the next one's", y.power(braid, settled, 0), y.power(braid, settled + 1, 0));
        }
    }

    // ---- "till it is that: where the i-th time", "NONE: others, it is not as many times." ----

    private static void knitIsAsManyTimesAsThereAreCrossings() {
        ChainIndex x = Check.told("braid i 0 1 2 3 4 5 6 7 8 9;braid r 9 8 7 6 5 4 3 2 1 0;"
                + "braid l 0 1 2 3 4 5 6 7 9 8;braid o 0;");
        due("no crossing", x.knit(0, 0), -1);
        due("one strand", x.knit(3, 0), -1);
        due("one crossing", x.knit(2, 0), 8);
        due("no second", x.knit(2, 1), -1);
        for (int i : new int[] {-1, -2, 45, 46, FAR, DEEP}) due("knit " + i, x.knit(1, i), -1);
        int times = 0;
        while (times < 60 && x.knit(1, times) != -1) {
            due("it can cross there", x.cross(0, x.knit(1, times)), true);
            times++;
        }
        due("45 times", times, 45);
        for (int strand = 0; strand < 10; strand++) due("till it is that", x.ends(0, strand), 9 - strand);
        ChainIndex y = Check.told("braid a 2 1 0;braid b 1 2 0;braid c 2 0 1;");
        int[][] due = {{0, 1, 0, -1}, {1, 0, -1, -1}, {0, 1, -1, -1}};
        for (int braid = 0; braid < 3; braid++) {
            for (int i = 0; i < 4; i++) due("knit " + braid + " " + i, y.knit(braid, i), due[braid][i]);
        }
    }

    // ---- "BELOW of two of as many strands: whether no COUNT of the first one is more" ----

    private static void belowHoldsOfOneAndItself() {
        ChainIndex x = Check.told(BRAIDS);
        for (int braid = 0; braid < 4; braid++) due("itself", x.below(braid, braid), true);
        due("crossing nowhere is below all", x.below(0, 1), true);
        due("all crossed is above all", x.below(2, 1), true);
        due("not the other way", x.below(1, 0), false);
        due("not the other way", x.below(1, 2), false);
        due("not as many strands", x.below(3, 0), false);
        due("not as many strands", x.below(0, 3), false);
        ChainIndex y = Check.told("braid a 1 0 2;braid b 0 2 1;");
        due("neither", y.below(0, 1), false);
        due("neither", y.below(1, 0), false);
    }

    // ---- "COMMON of two ROWS and a WINDOW of the second one" ----

    private static void commonIsOfAWindowOfTheSecond() {
        ChainIndex x = Check.told("row a strict 5;row b weak" + ALIKE + "row c down 6;");
        due("one and twenty", x.common(0, 1, 0, 20), 1);
        due("twenty and one", x.common(1, 0, 0, 1), 1);
        due("twenty and twenty", x.common(1, 1, 0, 20), 20);
        due("nothing alike", x.common(2, 1, 0, 20), 0);
        for (int at = 0; at <= 20; at += 20) due("of no places", x.common(1, 1, at, at), 0);
        due("the window is the second's", x.common(1, 0, 0, 2), -1);
        due("the window is the second's", x.common(0, 1, 0, 2), 1);
        for (int row : new int[] {-1, 3, 4, FAR, DEEP}) {
            due("first " + row, x.common(row, 0, 0, 0), -1);
            due("second " + row, x.common(0, row, 0, 0), -1);
            due("both " + row, x.common(row, row, 0, 0), -1);
        }
        ChainIndex y = Check.told("row a strict 1 2;row b weak 2 1;row c sink 1 9 2;");
        due("one behind another", y.common(0, 1, 0, 2), 1);
        due("with one between", y.common(0, 2, 0, 3), 2);
        due("the last one is not in it", y.common(0, 2, 0, 2), 1);
    }

    // ---- "MEETS of these ROWS and a PLACE of the second one: as STRAND, by what COMMON leaves" ----

    private static void meetsMayEndAtItsOwnPlace() {
        ChainIndex x = Check.told("row a strict 5;row b weak" + ALIKE + "row c down 6;");
        for (int place = 0; place < 20; place++) {
            due("in none: at once", x.meets(2, 1, place), place);
            due("with itself: none", x.meets(1, 1, place), -1);
            due("one alike: the next one", x.meets(0, 1, place), place < 19 ? place + 1 : -1);
        }
        due("the first's place is not asked", x.meets(1, 0, 0), -1);
        for (int place : new int[] {-1, 20, 21, FAR, FAR - 1, DEEP}) due("place " + place, x.meets(2, 1, place), -1);
        due("the places are the second's", x.meets(1, 2, 0), 0);
        due("the places are the second's", x.meets(1, 2, 1), -1);
        for (int row : new int[] {-1, 3, 4, FAR, DEEP}) {
            due("first " + row, x.meets(row, 1, 0), -1);
            due("second " + row, x.meets(0, row, 0), -1);
        }
    }

    // ---- "SEEN: that an unknown WINDOW (of one PLACE or more) of a ROW has LONG so much (1 to 20) or more, or less" ----

    private static void fitsIsOfOnePlaceOrMore() {
        ChainIndex x = Check.told("row a weak 7;row b weak" + ALIKE);
        due("one window", x.fits(0), 1);
        due("all windows", x.fits(1), 210);
        x.see(0, 1, true);
        due("1 or more", x.fits(0), 1);
        x.see(1, 20, true);
        due("20 or more", x.fits(1), 1);
        due("the first", x.first(1), 20);
        due("the other row as ahead", x.fits(0), 1);
        x.see(1, 20, false);
        due("20 or more, and less", x.fits(1), 0);
        due("no first", x.first(1), -1);
        due("none parts them", x.ask(1), -1);
        x.see(0, 1, false);
        due("less than 1: none has no place", x.fits(0), 0);
        due("no first", x.first(0), -1);
        for (int row : NO_ROWS) {
            due("fits " + row, x.fits(row), -1);
            due("first " + row, x.first(row), -1);
            due("ask " + row, x.ask(row), -1);
        }
        ChainIndex y = Check.told("row b weak" + ALIKE);
        y.see(0, 20, false);
        due("less than 20", y.fits(0), 209);
        y.see(0, 19, true);
        due("just 19", y.fits(0), 2);
        due("the first of two", y.first(0), 19);
        y.see(0, 2, false);
        due("none", y.fits(0), 0);
    }

    // ---- ".. as it is when it is asked" ----

    private static void theRowIsAsItIsWhenAsked() {
        ChainIndex x = Check.told("row a strict 1 2;row b strict 1;");
        x.see(0, 2, true);
        due("one", x.fits(0), 1);
        x.append(0, 3);
        due("three", x.fits(0), 3);
        x.turn(0);
        due("none of a falling row", x.fits(0), 0);
        due("no first", x.first(0), -1);
        x.undo();
        due("three", x.fits(0), 3);
        due("the first", x.first(0), 2);
    }

    // ---- "FIRST: of such the one whose PLACES are the first (i, then j)." ----

    private static void firstIsByItsStartThenByItsEnd() {
        ChainIndex x = Check.told(LATE);
        due("nothing seen", x.first(0), 1);
        x.see(0, 2, true);
        due("from the first place", x.first(0), 20);
        due("all that hold the last two", x.fits(0), 19);
        ChainIndex y = Check.told("row a strict 2 1 3 4;");
        y.see(0, 2, true);
        due("the least end", y.first(0), 3);
        y.see(0, 3, true);
        due("the least start, though wider", y.first(0), 4);
    }

    // ---- "the length by which the greater number of these .. is the least, if that is less than all; of equal ones the first." ----

    private static void askPartsWhatFits() {
        ChainIndex x = Check.told("row a weak 7;row b strict 9 5 1;row c weak 1 2;");
        due("one window", x.ask(0), -1);
        due("all alike", x.ask(1), -1);
        due("two of 1, one of 2", x.ask(2), 2);
        x.see(2, 2, true);
        due("one is left", x.ask(2), -1);
        // 8 windows of LONG 1, 5 of 2, 4 of 3, 4 of 4: by 2 as by 3 the greater number is 13.
        ChainIndex y = Check.told("row a strict 1 1 3 4 6 4;");
        int[] many = {8, 5, 4, 4};
        for (int length = 1; length <= 4; length++) due("how " + length, y.how(0, length), many[length - 1]);
        due("of equal ones the first", y.ask(0), 2);
        ChainIndex z = Check.told("row a weak" + ALIKE);
        z.see(0, 19, true);
        due("up to 20", z.ask(0), 20);
        z.see(0, 20, true);
        due("one is left", z.ask(0), -1);
        z.see(0, 20, false);
        due("none is left", z.ask(0), -1);
    }

    // ---- "1 to 20 NUMBERS", "1 to 10 NUMBERS": what was asked of a longer one is not left in a shorter one ----

    private static void oneObjectServesAllSizes() {
        String told = "row a strict" + ALIKE + "row b weak 5 6 5;row c weak 5;row d down 7 7;"
                + "braid e 9 8 7 6 5 4 3 2 1 0;braid f 1 0 2;braid g 0 2 1;braid h 0;";
        ChainIndex x = Check.told(told);
        for (int row = 1; row < 4; row++) {
            ChainIndex y = Check.told(told);
            int many = x.row(row, 1);
            due("how", x.how(0, 1) - 210 + x.how(row, 1), y.how(row, 1));
            due("near", x.near(0, 1) - 1 + x.near(row, 1), y.near(row, 1));
            due("strand", x.strand(0, 18) - 19 + x.strand(row, 0), y.strand(row, 0));
            due("shape", x.shape(0, 0, 20, 19) - 1 + x.shape(row, 0, many, 1), y.shape(row, 0, many, 1));
            due("piles", x.piles(0, 0, 20, -1) - 1 + x.piles(row, 0, many, -1), y.piles(row, 0, many, -1));
            due("common", x.common(0, 0, 0, 20) - 20 + x.common(1, row, 0, many), y.common(1, row, 0, many));
            due("meets", x.meets(3, 0, 19) - 19 + x.meets(0, row, 0), y.meets(0, row, 0));
            due("fits", x.fits(0) - 210 + x.fits(row), y.fits(row));
            due("ask", x.ask(0) + 1 + x.ask(row), y.ask(row));
        }
        int[][] ends = {{2, 0, 1}, {1, 0, 2}};
        for (int strand = 0; strand < 3; strand++) {
            due("ten", x.compose(0, 0, strand), 9 - strand);
            due("then three", x.compose(1, 2, strand), ends[0][strand]);
            due("ten", x.power(0, 20, strand), 9 - strand);
            due("then three", x.power(1, 2, strand), ends[1][strand]);
        }
        due("ten, then three", x.settles(0) * 10 + x.settles(1), 11);
        due("ten, then three", x.knit(0, 44) + x.knit(2, 0), 1);
        due("ten, then three", x.below(0, 0) && !x.below(1, 2), true);
        due("ten, then one", x.compose(0, 0, 0) - 9 + x.compose(3, 3, 0), 0);
    }

    // ---- "A DRAW below m: g becomes (g * 1103515245 + 12345) modulo 2147483648 .." ----

    private static int drawAt(int seed, int place, int below) {
        BigInteger g = BigInteger.valueOf(seed);
        for (int i = 0; i <= place; i++) {
            g = g.multiply(BigInteger.valueOf(1103515245)).add(BigInteger.valueOf(12345)).mod(BigInteger.valueOf(2147483648L));
        }
        return g.divide(BigInteger.valueOf(65536)).mod(BigInteger.valueOf(below)).intValue();
    }

    /** By a law that weighs one place 1 if its number is that, and all others 0, or the other way round. */
    private static void drawIs(int seed, int place, int below) {
        int number = drawAt(seed, place, below);
        String test = "(place = " + place + ") * (number = " + number + ")";
        ChainIndex x = Check.told("weighs " + (place == 0 ? "not (" + test + ")" : test) + ";");
        due("draw " + place + " by " + seed + " below " + below, x.drawn(seed, Math.max(place + 1, 2), below, 0), 2);
    }

    private static void aDrawIsAsToldBeyondWhatAnIntHolds() {
        for (int seed : new int[] {0, 1, 2, 77, 9998, 9999}) {
            for (int below : new int[] {100, 99, 7, 2}) {
                for (int place : new int[] {0, 1, 2, 18, 19}) drawIs(seed, place, below);
            }
        }
    }

    // ---- "DRAWN by a SEED (0 to 9999)", "of so many (1 to 20) NUMBERS, below so many (1 to 100) each" ----

    private static void oneObjectDrawsAnewEachTime() {
        ChainIndex x = new ChainIndex();
        for (int seed = 0; seed < 10; seed++) {
            for (int many = 20; many >= 1; many -= 5) {
                for (int what = 0; what <= 2; what++) {
                    due("as a new object draws", x.drawn(seed, many, 30, what), new ChainIndex().drawn(seed, many, 30, what));
                }
            }
        }
        for (int many = 2; many <= 20; many++) {
            ChainIndex y = Check.told("weighs (many = " + many + ") * (kind = 0) * place;");
            due("a strict row of so many", y.drawn(5, many, 10, 0), many);
            due("of no more", y.drawn(5, many - 1, 10, 0), 1);
        }
    }

    private static void drawnIsWithinItsBounds() {
        int[][] inside = {{0, 1, 1, 0}, {9999, 1, 1, 0}, {0, 20, 1, 0}, {9999, 20, 100, 0}, {0, 1, 100, 2}};
        ChainIndex x = new ChainIndex();
        for (int[] d : inside) due("drawn", x.drawn(d[0], d[1], d[2], d[3]) != -1, true);
        for (int seed : new int[] {-1, 10000, FAR, DEEP}) due("seed " + seed, x.drawn(seed, 1, 1, 0), -1);
        for (int many : new int[] {0, -1, 21, FAR, DEEP}) due("many " + many, x.drawn(0, many, 1, 0), -1);
        for (int below : new int[] {0, -1, 101, FAR, DEEP}) due("below " + below, x.drawn(0, 1, below, 0), -1);
        for (int what : new int[] {-1, 3, FAR, DEEP}) due("what " + what, x.drawn(0, 1, 1, what), -1);
        due("below 1 all are 0: long", x.drawn(5, 20, 1, 0), 1);
        due("below 1 all are 0: ways", x.drawn(5, 20, 1, 1), 20);
        due("below 1 all are 0: strands", x.drawn(5, 20, 1, 2), 19);
        due("one: long", x.drawn(5, 1, 100, 0), 1);
        due("one: ways", x.drawn(5, 1, 100, 1), 1);
        due("one: strands", x.drawn(5, 1, 100, 2), 0);
        Check.index(x, "weighs place;row a weak 1;");
        due("by weighs: long", x.drawn(5, 20, 1, 0), 20);
        due("by weighs: ways", x.drawn(5, 20, 1, 1), 1);
        due("by weighs: strands", x.drawn(5, 20, 1, 2), 0);
        due("no row comes of it", x.count(0), 1);
        due("no number either", x.count(2), 1);
        due("it can't be undone", x.count(6), 0);
    }

    public static void main(String[] args) {
        aWindowLiesInItsRow();
        ofARowTwoThingsAreTold();
        aPlaceIsFromZeroOn();
        longGoesFromNoPlacesToTwenty();
        aPickIsOfZeroToOneLessThanLong();
        thereIsOneWayOfNoPlaces();
        placesAreBitsZeroToNineteen();
        aStrandEndsBehindItsPlace();
        aStrandThatEndsAtTheWindowsEndIsNotInIt();
        howIsOfLengthsZeroToTwenty();
        bestIsOfWidthsZeroToAll();
        nearIsOfLengthsZeroToTwenty();
        aPileIsOfAPlaceInTheWindow();
        aShapeHasRowsZeroToTwenty();
        ofABraidThreeThingsAreTold();
        aStrandOfABraidIsFromZeroOn();
        noSuchBraidAnswersNone();
        countsAreOfZeroToAsManyAsThereAre();
        onlyAsManyStrandsCompose();
        aPowerIsOneToTwenty();
        settlesIsTheLeastOne();
        knitIsAsManyTimesAsThereAreCrossings();
        belowHoldsOfOneAndItself();
        commonIsOfAWindowOfTheSecond();
        meetsMayEndAtItsOwnPlace();
        fitsIsOfOnePlaceOrMore();
        theRowIsAsItIsWhenAsked();
        firstIsByItsStartThenByItsEnd();
        askPartsWhatFits();
        aDrawIsAsToldBeyondWhatAnIntHolds();
        drawnIsWithinItsBounds();
        oneObjectDrawsAnewEachTime();
        oneObjectServesAllSizes();
        CHECK.end();
    }
}
