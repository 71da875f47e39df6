import java.util.function.Consumer;
import java.util.function.ToLongFunction;

/**
 * The document's sentences on what changes an object (APPEND, CUT, TURN, CROSS, KEEP, MADE, UNDO,
 * JUDGED, SEEN, MARKS, counts) that name a bound: just inside it, just beyond, and that all stays
 * when a call is refused. Each test bears the sentence it is of.
 */
public final class ChangeEdgeTest {
    private static final Check CHECK = new Check("ChangeEdgeTest");
    private static final int FAR = Integer.MAX_VALUE;
    private static final int DEEP = Integer.MIN_VALUE;
    private static final String TEN = "0 1 2 3 4 5 6 7 8 9";
    private static final String REVERSED = "9 8 7 6 5 4 3 2 1 0";

    private static void due(String call, long got, long want) {
        CHECK.due(call, got, want);
    }

    private static void due(String call, boolean got, boolean want) {
        CHECK.due(call, got, want);
    }

    private static String times(String text, int often) {
        return text.repeat(often);
    }

    private static long bit(boolean answer) {
        return answer ? 1 : 0;
    }

    private static void refused(String call, Consumer<ChainIndex> first, ToLongFunction<ChainIndex> asked, long want) {
        Portrait.stays(CHECK, call, first, asked, want);
    }

    private static void refusedWhenBusy(String call, ToLongFunction<ChainIndex> asked, long want) {
        refused("busy: " + call, Portrait::busy, asked, want);
    }

    /** A change and its undo leave all as it was; what was made is counted all the same. */
    private static void undone(String change, String text, ToLongFunction<ChainIndex> done, long want) {
        refused(change + ", undone", x -> Check.index(x, text), x -> {
            due(change, done.applyAsLong(x), want);
            due(change + ": one can be undone", x.count(6), 1);
            return bit(x.undo());
        }, 1);
    }

    private static void numbers(String what, ChainIndex x, int row, int... due) {
        due(what + ": how many", x.row(row, 1), due.length);
        for (int place = 0; place < due.length; place++) due(what + " at " + place, x.item(row, place), due[place]);
    }

    private static void ends(String what, ChainIndex x, int braid, int... due) {
        due(what + ": strands", x.braid(braid, 0), due.length);
        for (int strand = 0; strand < due.length; strand++) due(what + " " + strand, x.ends(braid, strand), due[strand]);
    }

    // ---- "At first: nothing." ----

    private static void aNewObjectRefusesAll() {
        Consumer<ChainIndex> none = x -> { };
        refused("append", none, x -> x.append(0, 0), -1);
        refused("cut", none, x -> x.cut(0), -1);
        refused("turn", none, x -> bit(x.turn(0)), 0);
        refused("cross", none, x -> bit(x.cross(0, 0)), 0);
        refused("keep", none, x -> x.keep(0, 0), -1);
        refused("undo", none, x -> bit(x.undo()), 0);
        refused("see", none, x -> bit(x.see(0, 1, true)), 0);
        refused("mark, back", none, x -> bit(x.mark(0, true)), 0);
        refused("judged 0", none, x -> x.judged(0), -1);
        refused("judged 1", none, x -> x.judged(1), 0);
        refused("judged 2", none, x -> x.judged(2), 0);
        refused("feed of nothing", none, x -> x.feed(0, 0, 0), 0);
        refused("index of nothing", none, x -> x.index(), 0);
        refused("work of nothing", none, x -> x.work(), 0);
        for (int what = 0; what <= 7; what++) due("count " + what, new ChainIndex().count(what), 0);
    }

    private static void aNewObjectHasNothingToAsk() {
        ChainIndex x = new ChainIndex();
        int[] answers = {x.row(0, 0), x.item(0, 0), x.braid(0, 0), x.chain(0, 0, 0), x.pick(0, 0, 0, 0), x.ways(0, 0, 0),
            x.must(0, 0, 0), x.may(0, 0, 0), x.bare(0, 0, 0), x.strand(0, 0), x.under(0, 0, 0), x.how(0, 0), x.best(0, 0),
            x.near(0, 0), x.shape(0, 0, 0, 0), x.ends(0, 0), x.counts(0, 0, 0), x.compose(0, 0, 0), x.power(0, 1, 0),
            x.settles(0), x.knit(0, 0), x.common(0, 0, 0, 0), x.meets(0, 0, 0), x.fits(0), x.first(0), x.ask(0)};
        for (int i = 0; i < answers.length; i++) due("new object: ask " + i, answers[i], -1);
        due("piles", x.piles(0, 0, 0, -1), -2);
        due("below", x.below(0, 0), false);
        due("weight throws", Check.weight(x, 0, 0), Long.MIN_VALUE);
        due("drawn needs no index", x.drawn(1, 1, 1, 0), 1);
    }

    // ---- "APPEND: a NUMBER behind a ROW, if it has fewer than 20." ----

    private static void aRowGrowsToTwenty() {
        ChainIndex x = Check.told("row a weak" + times(" 5", 18) + ";row b weak 1;");
        due("a 19th", x.append(0, 6), 19);
        due("a 20th", x.append(0, 7), 20);
        due("a 21st", x.append(0, 8), -1);
        due("the 20th is there", x.item(0, 19), 7);
        due("no 21st is", x.item(0, 20), -1);
        due("another row has room", x.append(1, 2), 2);
        due("three changes", x.count(6), 3);
        due("cut", x.cut(0), 7);
        due("room again", x.append(0, 9), 20);
        due("21 and 2", x.count(2), 22);
        String full = "row a weak" + times(" 5", 20) + ";braid b 1 0;";
        refused("append to a full row", y -> Check.index(y, full), y -> y.append(0, 5), -1);
    }

    private static void aNumberAppendedIsZeroToNinetyNine() {
        ChainIndex x = Check.told("row a weak 5;");
        due("0", x.append(0, 0), 2);
        due("99", x.append(0, 99), 3);
        numbers("both are there", x, 0, 5, 0, 99);
        for (int number : new int[] {-1, 100, 256, 65536, FAR, DEEP, DEEP + 99}) {
            refusedWhenBusy("append of " + number, y -> y.append(0, number), -1);
        }
        for (int row : new int[] {-1, 2, 3, 4, FAR, DEEP}) {
            refusedWhenBusy("append to " + row, y -> y.append(row, 5), -1);
        }
    }

    // ---- "CUT: the last one is gone, if there are two or more." ----

    private static void oneNumberIsLeft() {
        ChainIndex x = Check.told("row a weak 5 6 7;row b weak 8;");
        due("of three", x.cut(0), 7);
        due("of two", x.cut(0), 6);
        due("of one", x.cut(0), -1);
        due("it is there", x.item(0, 0), 5);
        due("of one told", x.cut(1), -1);
        due("two changes", x.count(6), 2);
        ChainIndex y = Check.told("row a weak" + times(" 0", 20) + ";");
        for (int i = 0; i < 19; i++) due("a 0 is gone", y.cut(0), 0);
        due("none is", y.cut(0), -1);
        refusedWhenBusy("cut of one", z -> z.cut(1), -1);
        for (int row : new int[] {-1, 2, 3, 4, FAR, DEEP}) {
            refusedWhenBusy("cut of " + row, z -> z.cut(row), -1);
        }
    }

    // ---- "TURN: the ROW is read from its end." ----

    private static void aRowOfAnyLengthIsTurned() {
        ChainIndex x = Check.told("row a weak 5;row b weak 1 2;row c weak 1 2 3;row d down" + times(" 4", 19) + " 7;");
        for (int row = 0; row < 4; row++) due("turn", x.turn(row), true);
        numbers("one", x, 0, 5);
        numbers("two", x, 1, 2, 1);
        numbers("three", x, 2, 3, 2, 1);
        due("twenty: the first", x.item(3, 0), 7);
        due("twenty: the last", x.item(3, 19), 4);
        due("the kind stays", x.row(3, 0), 2);
        due("each is a change", x.count(6), 4);
        due("twice", x.turn(2), true);
        numbers("as ahead", x, 2, 1, 2, 3);
        for (int row : new int[] {-1, 2, 3, 4, FAR, DEEP}) {
            refusedWhenBusy("turn of " + row, y -> bit(y.turn(row)), 0);
        }
    }

    // ---- "CROSS a BRAID of m strands at k (k + 1 less than m): .. else they have crossed already: it can't be." ----

    private static void aCrossIsAtZeroToTwoLessThanThereAre() {
        ChainIndex x = Check.told("braid one 0;braid two 0 1;braid ten " + TEN + ";braid three 0 1 2;");
        int[] wrong = {-1, -2, 10, 11, FAR, FAR - 1, DEEP, DEEP + 1};
        for (int at : wrong) {
            for (int braid = 0; braid < 4; braid++) due("cross at " + at, x.cross(braid, at), false);
        }
        due("one strand", x.cross(0, 0), false);
        due("two at 1", x.cross(1, 1), false);
        due("three at 2", x.cross(3, 2), false);
        due("ten at 9", x.cross(2, 9), false);
        due("no change", x.count(6), 0);
        due("two at 0", x.cross(1, 0), true);
        due("three at 1", x.cross(3, 1), true);
        due("ten at 8", x.cross(2, 8), true);
        ends("two", x, 1, 1, 0);
        ends("three", x, 3, 0, 2, 1);
        ends("ten", x, 2, 0, 1, 2, 3, 4, 5, 6, 7, 9, 8);
        for (int at : new int[] {-1, 2, 3, FAR, DEEP}) {
            refusedWhenBusy("cross at " + at, y -> bit(y.cross(1, at)), 0);
        }
        for (int braid : new int[] {-1, 3, 4, 8, FAR, DEEP}) {
            refusedWhenBusy("cross of " + braid, y -> bit(y.cross(braid, 0)), 0);
        }
    }

    private static void whatHasCrossedCrossesNoMore() {
        ChainIndex x = Check.told("braid a 1 2 0;braid b " + REVERSED + ";");
        due("at 0 the third one is ahead of the first", x.cross(0, 0), false);
        due("at 1", x.cross(0, 1), true);
        ends("all have crossed", x, 0, 2, 1, 0);
        due("at 0", x.cross(0, 0), false);
        due("at 1", x.cross(0, 1), false);
        for (int at = 0; at < 9; at++) due("all of ten have crossed", x.cross(1, at), false);
        due("one change", x.count(6), 1);
        refusedWhenBusy("crossed already", y -> bit(y.cross(0, 1)), 0);
    }

    private static void tenStrandsCrossFortyFiveTimes() {
        ChainIndex x = Check.told("braid a " + TEN + ";");
        int often = 0;
        for (int round = 0; round < 9; round++) {
            for (int at = 0; at < 9 - round; at++) {
                if (x.cross(0, at)) often++;
            }
        }
        due("45", often, 45);
        due("crossings", x.braid(0, 1), 45);
        for (int at = 0; at < 9; at++) due("no 46th", x.cross(0, at), false);
        ends("reversed", x, 0, 9, 8, 7, 6, 5, 4, 3, 2, 1, 0);
    }

    // ---- "KEEP: what two BRAIDS of as many strands (or one, twice) COMPOSE to is a BRAID, too, if there are fewer than 8" ----

    private static void eightBraidsAreKept() {
        ChainIndex x = Check.told("braid a 1 0;braid b 0 1;braid c 0;braid d 0 1 2;");
        for (int number = 4; number <= 7; number++) due("numbered behind all", x.keep(0, 1), number);
        due("a ninth", x.keep(0, 1), -1);
        due("a ninth of one, twice", x.keep(2, 2), -1);
        due("eight", x.count(1), 8);
        ends("the eighth", x, 7, 1, 0);
        due("no ninth is there", x.braid(8, 0), -1);
        due("undo", x.undo(), true);
        due("room again", x.keep(7 - 1, 6), 7);
        ChainIndex y = Check.told("braid a 0;");
        for (int number = 1; number <= 7; number++) due("of one told", y.keep(number - 1, 0), number);
        due("a ninth", y.keep(0, 0), -1);
        refused("keep of a ninth", z -> {
            Check.index(z, "braid a 1 0;");
            for (int i = 0; i < 7; i++) z.keep(0, 0);
        }, z -> z.keep(0, 0), -1);
    }

    private static void onlyAsManyStrandsAreKept() {
        String text = "row r weak 1;braid a 1 0;braid b 0 1 2;braid c 0;";
        for (int one = 0; one < 3; one++) {
            for (int two = 0; two < 3; two++) {
                int first = one;
                int second = two;
                if (one != two) refused("keep " + one + " " + two, x -> Check.index(x, text), x -> x.keep(first, second), -1);
                else due("one, twice", Check.told(text).keep(one, two), 3);
            }
        }
        for (int other : new int[] {-1, 3, 4, 8, FAR, DEEP}) {
            refusedWhenBusy("keep of " + other, x -> x.keep(other, 0), -1);
            refusedWhenBusy("keep with " + other, x -> x.keep(0, other), -1);
        }
    }

    private static void whatIsKeptIsABraidToo() {
        ChainIndex x = Check.told("braid a 1 0 2;braid b 0 2 1;");
        due("keep", x.keep(0, 1), 2);
        ends("kept", x, 2, 2, 0, 1);
        due("it may cross", x.cross(2, 0), true);
        ends("crossed", x, 2, 2, 1, 0);
        ends("the first of its two stays", x, 0, 1, 0, 2);
        ends("the second of its two stays", x, 1, 0, 2, 1);
        due("it may be kept", x.keep(2, 2), 3);
        due("the first of two crosses later", x.cross(0, 1), true);
        ends("what was kept stays", x, 3, 2, 1, 0);
    }

    // ---- "MADE of a BRAID: how many there were made in this INDEX before (.., what is undone later, too; none by JUDGED)" ----

    private static void madeCountsWhatIsUndone() {
        ChainIndex x = Check.told("braid a 1 0;braid b 0 1;");
        due("the first", x.braid(0, 2), 0);
        due("the second", x.braid(1, 2), 1);
        due("two", x.count(3), 2);
        x.keep(0, 0);
        due("kept", x.braid(2, 2), 2);
        x.undo();
        due("three still", x.count(3), 3);
        due("undone: it is none", x.braid(2, 2), -1);
        x.keep(0, 1);
        due("kept again", x.braid(2, 2), 3);
        due("refused", x.keep(0, 5), -1);
        due("a refused one counts none", x.count(3), 4);
        Check.work(x, "keep a b;keep a a;");
        due("judged", x.judged(2), 4);
        due("none by judged", x.count(3), 4);
        x.mark(0, false);
        x.keep(0, 0);
        due("kept", x.braid(3, 2), 4);
        x.mark(0, true);
        due("a mark doesn't hold how many were made", x.count(3), 5);
        x.keep(0, 0);
        due("kept behind the mark", x.braid(3, 2), 5);
        x.mark(0, true);
        due("the mark's own one as it was", x.braid(2, 2), 3);
        due("a fault", Check.index(x, "braid"), 1 + 16 * 5);
        due("stays", x.count(3), 6);
        due("another index", Check.index(x, "braid a 0;"), 0);
        due("from the start", x.count(3), 1);
        due("from the start", x.braid(0, 2), 0);
    }

    private static void madeGoesBeyondEight() {
        ChainIndex x = Check.told("braid a 1 0;");
        for (int i = 1; i <= 20; i++) {
            due("keep", x.keep(0, 0), 1);
            due("made", x.braid(1, 2), i);
            due("undo", x.undo(), true);
        }
        due("21", x.count(3), 21);
        due("one is there", x.count(1), 1);
    }

    // ---- "UNDO: all of these, the last 16, one by one (what is SEEN stays)." ----

    private static void theLastSixteenAreUndone() {
        for (int changes : new int[] {0, 1, 15, 16, 17, 18}) {
            ChainIndex x = Check.told("row a weak 0;");
            for (int i = 1; i <= changes; i++) x.append(0, i);
            int most = Math.min(changes, 16);
            due("of " + changes + " can be undone", x.count(6), most);
            for (int i = 0; i < most; i++) {
                due("undo", x.undo(), true);
                due("the last one is gone", x.row(0, 1), changes - i);
                due("one less", x.count(6), most - i - 1);
            }
            due("no more", x.undo(), false);
            due("the older ones stay", x.row(0, 1), 1 + changes - most);
            due("the last of them", x.item(0, changes - most), changes - most);
        }
    }

    private static void theLastSixteenOfAllKindsAreUndone() {
        ChainIndex x = Check.told("row a weak 1 2 3;braid b " + TEN + ";");
        due("the oldest: no more to be undone", x.append(0, 9), 4);
        x.turn(0);
        x.cut(0);
        x.keep(0, 0);
        for (int at = 0; at < 9; at++) x.cross(0, at);
        x.keep(0, 1);
        x.append(0, 7);
        x.turn(0);
        x.cut(0);
        due("sixteen of seventeen", x.count(6), 16);
        for (int i = 0; i < 16; i++) due("undo", x.undo(), true);
        due("no seventeenth", x.undo(), false);
        numbers("as behind the first change", x, 0, 1, 2, 3, 9);
        ends("as told", x, 0, 0, 1, 2, 3, 4, 5, 6, 7, 8, 9);
        due("one braid", x.count(1), 1);
        due("three made", x.count(3), 3);
    }

    private static void whatIsRefusedPushesNothingOut() {
        ChainIndex x = Check.told("row a weak 0 0;braid b 0;");
        for (int i = 0; i < 16; i++) x.turn(0);
        x.append(0, 100);
        x.append(1, 1);
        x.cross(0, 0);
        x.keep(0, 1);
        x.turn(1);
        x.cut(1);
        x.see(0, 1, true);
        x.see(0, 0, true);
        x.mark(0, false);
        x.mark(1, true);
        Check.work(x, "cut a;");
        Check.work(x, "cut");
        Check.index(x, "cut");
        x.judged(1);
        due("sixteen still", x.count(6), 16);
        for (int i = 0; i < 16; i++) due("undo", x.undo(), true);
        due("nothing is left", x.undo(), false);
    }

    private static void eachChangeIsUndone() {
        String one = "row a weak 5;row b sink 1 2;braid c " + TEN + ";braid d 1 0;";
        String full = "row a weak" + times(" 5", 19) + " 6;";
        undone("append to one", one, x -> x.append(0, 99), 2);
        undone("append of a 20th", "row a weak" + times(" 5", 19) + ";", x -> x.append(0, 0), 20);
        undone("cut to one", one, x -> x.cut(1), 2);
        undone("cut of twenty", full, x -> x.cut(0), 6);
        undone("turn of one", one, x -> bit(x.turn(0)), 1);
        undone("turn of two", one, x -> bit(x.turn(1)), 1);
        undone("turn of twenty", full, x -> bit(x.turn(0)), 1);
        undone("cross at 0", one, x -> bit(x.cross(0, 0)), 1);
        undone("cross at 8", one, x -> bit(x.cross(0, 8)), 1);
        ChainIndex x = Check.told(one);
        due("keep", x.keep(1, 1), 2);
        due("undo", x.undo(), true);
        due("no third braid", x.braid(2, 0), -1);
        due("nothing is left", x.undo(), false);
        refusedWhenBusy("append, undone", y -> y.append(0, 1) + bit(y.undo()), 6);
        refusedWhenBusy("cross, undone", y -> bit(y.cross(1, 0)) + bit(y.undo()), 2);
    }

    private static void whatIsSeenStaysWhenUndone() {
        ChainIndex x = Check.told("row a weak 1 2;");
        x.see(0, 1, true);
        x.append(0, 3);
        x.see(0, 3, true);
        due("one window", x.fits(0), 1);
        due("undo", x.undo(), true);
        due("both are seen", x.count(5), 2);
        due("no window now", x.fits(0), 0);
        due("see is no change", x.undo(), false);
        due("both are seen", x.count(5), 2);
    }

    private static void nothingCanBeUndone() {
        refused("told", x -> Check.index(x, "row a weak 1;"), x -> bit(x.undo()), 0);
        refused("gone back to a mark", x -> {
            Portrait.busy(x);
            x.mark(2, true);
        }, x -> bit(x.undo()), 0);
        ChainIndex x = Check.told("row a weak 1 2;");
        x.turn(0);
        due("another index", Check.index(x, "row a weak 1 2;"), 0);
        due("nothing", x.undo(), false);
        x.turn(0);
        x.mark(0, false);
        due("laying a mark takes nothing away", x.undo(), true);
        x.turn(0);
        due("not there", x.mark(1, true), false);
        due("what is refused takes nothing away", x.undo(), true);
    }

    // ---- "JUDGED: the WORK from the INDEX as told: the first line (from 0) that can't be (those are left out); .." ----

    private static void judged(String what, String told, String work, int line, int numbers, int braids) {
        ChainIndex x = Check.told(told);
        due(what + ": work", Check.work(x, work), 0);
        due(what + ": line", x.judged(0), line);
        due(what + ": numbers", x.judged(1), numbers);
        due(what + ": braids", x.judged(2), braids);
    }

    private static void judgedTellsTheFirstLineThatCantBe() {
        String told = "row a weak 1 2;row b weak" + times(" 5", 19) + ";braid x 0 1;braid y 0;braid z 1 0;";
        judged("no lines", told, "", -1, 21, 3);
        judged("cut to one", told, "cut a;", -1, 20, 3);
        judged("cut of one", told, "cut a;cut a;", 1, 20, 3);
        judged("cut of one is left out", told, "cut a;cut a;append a 1;cut a;", 1, 20, 3);
        judged("a 20th", told, "append b 0;", -1, 22, 3);
        judged("a 21st", told, "append b 0;append b 99;", 1, 22, 3);
        judged("a 21st is left out", told, "append b 1;append b 1;cut b;append b 1;", 1, 22, 3);
        judged("cross", told, "cross x 0;", -1, 21, 3);
        judged("cross twice", told, "cross x 0;cross x 0;", 1, 21, 3);
        judged("crossed already", told, "cross z 0;", 0, 21, 3);
        judged("no strand there", told, "turn a;turn b;cross x 1;cross x 8;", 2, 21, 3);
        judged("one strand", told, "cross y 0;", 0, 21, 3);
        judged("not as many strands", told, "keep x y;keep y x;keep x z;", 0, 21, 4);
        judged("up to eight", told, times("keep x x;", 5), -1, 21, 8);
        judged("a ninth", told, times("keep x x;", 5) + "turn a;keep y y;", 6, 21, 8);
        judged("the first of many", told, "turn a;" + times("cross y 0;", 20) + "turn b;", 1, 21, 3);
        judged("the last of thirty", told, times("turn a;", 29) + "cross y 0;", 29, 21, 3);
        judged("thirty that can be", told, times("append a 1;cut a;", 15), -1, 21, 3);
        judged("nothing told, no lines", "", "", -1, 0, 0);
    }

    private static void judgedIsFromTheIndexAsTold() {
        ChainIndex x = Check.told("row a weak 1 2;braid b 0 1;");
        Check.work(x, "cut a;cross b 0;keep b b;");
        x.cut(0);
        x.cross(0, 0);
        x.keep(0, 0);
        due("line", x.judged(0), -1);
        due("numbers", x.judged(1), 1);
        due("braids", x.judged(2), 2);
        due("again", x.judged(0), -1);
        numbers("the rows stay as they are", x, 0, 1);
        due("the braids too", x.count(1), 2);
        due("what can be undone too", x.count(6), 3);
        due("what was made too", x.count(3), 2);
        x.mark(0, false);
        x.mark(0, true);
        due("as told still", x.judged(1), 1);
        due("another index", Check.index(x, "row a weak 1 2 3;"), 0);
        due("no work: no line", x.judged(0), -1);
        due("its numbers", x.judged(1), 3);
        due("its braids", x.judged(2), 0);
    }

    private static void judgedOfOthersIsMinusTwo() {
        for (int what : new int[] {-1, -2, 3, 4, FAR, DEEP}) {
            refusedWhenBusy("judged " + what, x -> x.judged(what), -2);
            due("of nothing", new ChainIndex().judged(what), -2);
        }
        refusedWhenBusy("judged 0", x -> x.judged(0), 2);
        refusedWhenBusy("judged 1", x -> x.judged(1), 5);
        refusedWhenBusy("judged 2", x -> x.judged(2), 3);
    }

    // ---- "SEEN: .. LONG so much (1 to 20) or more, or less; 8 at most, of any ROW" ----

    private static void eightAreSeen() {
        ChainIndex x = Check.told("row a weak 1 2;row b weak 1;row c weak 1;row d weak 1;");
        for (int i = 0; i < 8; i++) {
            due("as many as ahead", x.count(5), i);
            due("see", x.see(i % 4, 1 + i, i % 2 == 0), true);
        }
        due("eight", x.count(5), 8);
        for (int row = 0; row < 4; row++) {
            due("a ninth of any row", x.see(row, 1, true), false);
            due("a ninth of any row", x.see(row, 20, false), false);
        }
        due("eight", x.count(5), 8);
        Consumer<ChainIndex> full = y -> {
            Check.index(y, "row a weak 1 2;row b weak 1;");
            for (int i = 0; i < 8; i++) y.see(0, 1, true);
        };
        refused("a ninth", full, y -> bit(y.see(0, 2, true)), 0);
        refused("a ninth of another", full, y -> bit(y.see(1, 1, false)), 0);
    }

    private static void aLengthSeenIsOneToTwenty() {
        ChainIndex x = Check.told("row a weak 1;");
        due("1", x.see(0, 1, false), true);
        due("20", x.see(0, 20, true), true);
        for (int length : new int[] {0, -1, 21, 22, FAR, DEEP}) {
            refusedWhenBusy("see of " + length, y -> bit(y.see(0, length, true)), 0);
            refusedWhenBusy("see of " + length + " or less", y -> bit(y.see(0, length, false)), 0);
        }
        for (int row : new int[] {-1, 2, 3, 4, FAR, DEEP}) {
            refusedWhenBusy("see in " + row, y -> bit(y.see(row, 1, true)), 0);
        }
    }

    private static void nothingIsSeenInAnotherIndex() {
        ChainIndex x = Check.told("row a weak 1 2;");
        for (int i = 0; i < 8; i++) x.see(0, 2, true);
        due("seen", x.fits(0), 1);
        due("a fault", Check.index(x, "row a"), 1 + 16 * 5);
        due("eight still", x.count(5), 8);
        due("another index", Check.index(x, "row a weak 1 2;"), 0);
        due("none", x.count(5), 0);
        due("all fit", x.fits(0), 3);
        due("room again", x.see(0, 2, false), true);
        due("the new one alone", x.fits(0), 2);
    }

    // ---- "MARKS 0 to 3 hold ROWS, BRAIDS, what is SEEN (not how many were made; nothing can be undone when one is gone back to)." ----

    private static void thereAreFourMarks() {
        ChainIndex x = Check.told("row a weak 5;");
        for (int mark = 0; mark <= 3; mark++) {
            due("nothing is on it", x.mark(mark, true), false);
            due("laid", x.mark(mark, false), true);
            due("append", x.append(0, mark), mark + 2);
        }
        for (int mark = 3; mark >= 0; mark--) {
            due("back", x.mark(mark, true), true);
            due("as it was", x.row(0, 1), mark + 1);
        }
        due("on again", x.mark(3, true), true);
        numbers("as it was", x, 0, 5, 0, 1, 2);
        for (int mark : new int[] {-1, 4, 5, FAR, DEEP}) {
            refusedWhenBusy("mark " + mark, y -> bit(y.mark(mark, false)), 0);
            refusedWhenBusy("back to mark " + mark, y -> bit(y.mark(mark, true)), 0);
        }
        refusedWhenBusy("nothing on 0", y -> bit(y.mark(0, true)), 0);
        refusedWhenBusy("nothing on 3", y -> bit(y.mark(3, true)), 0);
    }

    private static void aMarkHoldsRowsBraidsAndWhatIsSeen() {
        ChainIndex x = Check.told("row a weak 5 6;braid b 0 1;");
        x.see(0, 2, true);
        x.mark(3, false);
        x.append(0, 7);
        x.turn(0);
        x.cross(0, 0);
        x.keep(0, 0);
        for (int i = 0; i < 7; i++) x.see(0, 1, true);
        due("no ninth", x.see(0, 1, true), false);
        Check.work(x, "cut a;");
        Check.feed(x, "abc");
        due("back", x.mark(3, true), true);
        numbers("rows", x, 0, 5, 6);
        ends("braids", x, 0, 0, 1);
        due("no kept one", x.count(1), 1);
        due("seen", x.count(5), 1);
        due("what was seen", x.fits(0), 1);
        due("room again", x.see(0, 1, true), true);
        due("made is not held", x.count(3), 2);
        due("nothing can be undone", x.count(6), 0);
        due("the work is not held", x.count(4), 1);
        due("the tape is not held", x.count(7), 3);
        due("what is changed later", x.append(0, 9), 3);
        due("back again", x.mark(3, true), true);
        numbers("is not on the mark", x, 0, 5, 6);
        due("nor what is seen later", x.count(5), 1);
    }

    private static void aMarkHoldsAsMuchAsThereMayBe() {
        String twenty = times(" 5", 19) + " 6;";
        ChainIndex x = Check.told("row a weak" + twenty + "row b weak" + twenty + "row c weak" + twenty + "row d sink" + twenty
                + "braid e " + REVERSED + ";braid f " + TEN + ";braid g " + TEN + ";braid h " + TEN + ";");
        for (int i = 0; i < 4; i++) x.keep(0, 1);
        for (int i = 0; i < 8; i++) due("see", x.see(3, 13 + i, i < 7), true);
        due("laid", x.mark(3, false), true);
        for (int row = 0; row < 4; row++) x.cut(row);
        for (int i = 0; i < 4; i++) x.undo();
        x.undo();
        due("back", x.mark(3, true), true);
        due("numbers", x.count(2), 80);
        due("braids", x.count(1), 8);
        due("seen", x.count(5), 8);
        due("the last number", x.item(3, 19), 6);
        due("the last strand", x.ends(7, 9), 0);
        due("the last kind", x.row(3, 0), 3);
        due("all that is seen", x.fits(3), 2);
        due("the one of 19 places first", x.first(3), 19);
        due("no ninth braid", x.keep(0, 0), -1);
        due("no ninth seen", x.see(0, 1, true), false);
        due("no 21st number", x.append(3, 1), -1);
    }

    private static void whatIsSeenLaterIsNotOnAMark() {
        ChainIndex x = Check.told("row a weak 1 1;row b weak 1 1;");
        x.mark(0, false);
        x.see(0, 2, true);
        x.mark(1, false);
        due("back to nothing seen", x.mark(0, true), true);
        due("none", x.fits(0) + x.fits(1), 6);
        x.see(1, 2, false);
        due("another row, length and side", x.fits(1), 2);
        due("back", x.mark(1, true), true);
        due("2 or more of a", x.fits(0), 1);
        due("nothing of b", x.fits(1), 3);
        x.mark(0, true);
        x.see(0, 1, false);
        x.mark(1, true);
        due("2 or more of a, not less than 1", x.fits(0), 1);
    }

    private static void aMarkIsLaidAnew() {
        ChainIndex x = Check.told("row a weak 5;");
        x.mark(0, false);
        x.append(0, 6);
        due("laid anew", x.mark(0, false), true);
        x.append(0, 7);
        due("back", x.mark(0, true), true);
        numbers("the newer one", x, 0, 5, 6);
        x.mark(1, false);
        due("no other mark", x.mark(2, true), false);
    }

    private static void noMarkIsThereInAnotherIndex() {
        ChainIndex x = Check.told("row a weak 5;");
        for (int mark = 0; mark <= 3; mark++) x.mark(mark, false);
        due("a fault", Check.index(x, "!"), 1);
        due("there still", x.mark(0, true), true);
        due("a work", Check.work(x, "cut a;"), 0);
        due("there still", x.mark(3, true), true);
        due("another index", Check.index(x, "row a weak 5;"), 0);
        for (int mark = 0; mark <= 3; mark++) due("none", x.mark(mark, true), false);
        ChainIndex y = new ChainIndex();
        due("a mark of nothing", y.mark(2, false), true);
        due("back to nothing", y.mark(2, true), true);
        due("nothing", y.count(0), 0);
    }

    // ---- "What 0: ROWS, 1: BRAIDS, .. NONE for another what." ----

    private static void aCountIsOfZeroToSeven() {
        ChainIndex x = new ChainIndex();
        Portrait.busy(x);
        int[] due = {2, 3, 5, 3, 4, 2, 5, 14};
        for (int what = 0; what <= 7; what++) due("count " + what, x.count(what), due[what]);
        for (int what : new int[] {-1, -2, 8, 9, FAR, DEEP}) {
            due("count " + what, x.count(what), -1);
            due("count of nothing " + what, new ChainIndex().count(what), -1);
        }
        due("the constant", ChainIndex.NONE, -1);
    }

    // ---- asking changes nothing, and objects share nothing ----

    private static void askingChangesNothing() {
        refusedWhenBusy("asks", x -> {
            x.chain(0, 0, 4);
            x.pick(0, 0, 4, 0);
            x.ways(0, 0, 4);
            x.must(0, 0, 4);
            x.may(0, 0, 4);
            x.strand(0, 0);
            x.how(0, 1);
            x.piles(0, 0, 4, -1);
            x.shape(0, 0, 4, 0);
            x.compose(0, 1, 0);
            x.power(2, 20, 0);
            x.settles(2);
            x.knit(2, 1);
            x.below(0, 1);
            x.common(0, 1, 0, 1);
            x.meets(1, 0, 0);
            x.ask(0);
            x.drawn(9999, 20, 100, 2);
            x.judged(1);
            return Check.weight(x, 2, 0);
        }, Long.MIN_VALUE);
    }

    private static void objectsShareNothing() {
        ChainIndex x = new ChainIndex();
        ChainIndex y = new ChainIndex();
        ChainIndex alone = new ChainIndex();
        Portrait.busy(x);
        Portrait.busy(alone);
        Check.index(y, "row q weak 9 8 7;weighs 0 - number;braid z 1 0;");
        Check.work(y, "cut q;");
        y.mark(1, false);
        y.see(0, 3, true);
        y.turn(0);
        y.keep(0, 0);
        Check.feed(y, "zzz");
        due("the other is as if alone", Portrait.of(x).equals(Portrait.of(alone)), true);
    }

    public static void main(String[] args) {
        aNewObjectRefusesAll();
        aNewObjectHasNothingToAsk();
        aRowGrowsToTwenty();
        aNumberAppendedIsZeroToNinetyNine();
        oneNumberIsLeft();
        aRowOfAnyLengthIsTurned();
        aCrossIsAtZeroToTwoLessThanThereAre();
        whatHasCrossedCrossesNoMore();
        tenStrandsCrossFortyFiveTimes();
        eightBraidsAreKept();
        onlyAsManyStrandsAreKept();
        whatIsKeptIsABraidToo();
        madeCountsWhatIsUndone();
        madeGoesBeyondEight();
        theLastSixteenAreUndone();
        theLastSixteenOfAllKindsAreUndone();
        whatIsRefusedPushesNothingOut();
        eachChangeIsUndone();
        whatIsSeenStaysWhenUndone();
        nothingCanBeUndone();
        judgedTellsTheFirstLineThatCantBe();
        judgedIsFromTheIndexAsTold();
        judgedOfOthersIsMinusTwo();
        eightAreSeen();
        aLengthSeenIsOneToTwenty();
        nothingIsSeenInAnotherIndex();
        thereAreFourMarks();
        aMarkHoldsRowsBraidsAndWhatIsSeen();
        aMarkHoldsAsMuchAsThereMayBe();
        whatIsSeenLaterIsNotOnAMark();
        aMarkIsLaidAnew();
        noMarkIsThereInAnotherIndex();
        aCountIsOfZeroToSeven();
        askingChangesNothing();
        objectsShareNothing();
        CHECK.end();
    }
}
