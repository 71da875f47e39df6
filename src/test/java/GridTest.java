/**
 * Every call of the face with every mix of arguments at, just inside and just beyond the bounds
 * that the document names, and at the ends of int: the answers must be the reference's.
 */
public final class GridTest {
    private static final Check CHECK = new Check("GridTest");
    private static final int FAR = Integer.MAX_VALUE;
    private static final int DEEP = Integer.MIN_VALUE;
    private static final int[] FEW = {DEEP, -2, -1, 0, 1, 2, 3, 4, 5, 6, 20, 21, FAR};
    private static final int[] MANY = {DEEP, DEEP + 1, -65536, -100, -33, -32, -21, -3, -2, -1, 0, 1, 2, 3, 4, 5, 6, 7, 8, 9, 10,
        11, 15, 16, 17, 19, 20, 21, 22, 31, 32, 33, 44, 45, 46, 98, 99, 100, 101, 255, 256, 257, 65536, FAR - 1, FAR};
    private static final int MOST_CALLS = 400;

    private static final String TOLD = "row a strict 3 1 4 1 5;row b weak 7;row c down 9 9 2;weighs number * 3 - place;"
            + "braid x 2 0 3 1;braid y 0;braid z 1 0 2 3;";

    private interface Asked {
        long of(ChainIndex x, int[] a);
    }

    private interface Due {
        long of(Reference y, int[] a);
    }

    private static ChainIndex x;
    private static Reference y;
    private static int calls;

    private static void begin() {
        x = new ChainIndex();
        y = new Reference();
        for (String text : new String[] {TOLD, "append a 7;cut b;keep x z;cross x 2;"}) {
            for (int i = 0; i < text.length(); i += 24) {
                x.feed(Check.pack(text, i), Check.pack(text, i + 8), Check.pack(text, i + 16));
                y.feed(Check.pack(text, i), Check.pack(text, i + 8), Check.pack(text, i + 16));
            }
            if (text.equals(TOLD)) {
                CHECK.due("index", x.index(), y.index());
            } else {
                CHECK.due("work", x.work(), y.work());
            }
        }
        x.keep(0, 2);
        y.act("keep", 0, 2);
        x.see(0, 2, true);
        y.see(0, 2, true);
        x.mark(1, false);
        y.mark(1, false);
        calls = 0;
    }

    private static void compare(String name, int[] a, Asked asked, Due due) {
        if (calls >= MOST_CALLS) begin();
        calls++;
        long got = asked.of(x, a);
        long want = due.of(y, a);
        if (got != want) {
            StringBuilder call = new StringBuilder(name);
            for (int value : a) call.append(' ').append(value);
            CHECK.due(call.toString(), got, want);
        } else {
            CHECK.due(name, got, want);
        }
    }

    private static void grid(String name, int many, int[] values, boolean anew, Asked asked, Due due) {
        int[] at = new int[many];
        int[] a = new int[many];
        begin();
        int last = 0;
        while (last >= 0) {
            for (int i = 0; i < many; i++) a[i] = values[at[i]];
            if (anew) begin();
            compare(name, a, asked, due);
            last = many - 1;
            while (last >= 0 && at[last] == values.length - 1) {
                at[last] = 0;
                last--;
            }
            if (last >= 0) at[last]++;
        }
    }

    private static void asks(String name, int many, Asked asked, Due due) {
        grid(name, many, many < 3 ? MANY : FEW, false, asked, due);
    }

    private static void changes(String name, int many, Asked asked, Due due) {
        grid(name, many, MANY, true, asked, due);
    }

    private static long bit(boolean answer) {
        return answer ? 1 : 0;
    }

    private static void rowsAndBraids() {
        asks("row", 2, (x, a) -> x.row(a[0], a[1]), (y, a) -> y.row(a[0], a[1]));
        asks("item", 2, (x, a) -> x.item(a[0], a[1]), (y, a) -> y.item(a[0], a[1]));
        asks("weight", 2, (x, a) -> Check.weight(x, a[0], a[1]), (y, a) -> y.weight(a[0], a[1]));
        asks("braid", 2, (x, a) -> x.braid(a[0], a[1]), (y, a) -> y.braid(a[0], a[1]));
        asks("count", 1, (x, a) -> x.count(a[0]), (y, a) -> y.count(a[0]));
        asks("judged", 1, (x, a) -> x.judged(a[0]), (y, a) -> y.judged(a[0]));
    }

    private static void changesByHand() {
        changes("append", 2, (x, a) -> x.append(a[0], a[1]), (y, a) -> y.act("append", a[0], a[1]));
        changes("cut", 1, (x, a) -> x.cut(a[0]), (y, a) -> y.act("cut", a[0], 0));
        changes("turn", 1, (x, a) -> bit(x.turn(a[0])), (y, a) -> bit(y.act("turn", a[0], 0) != -1));
        changes("cross", 2, (x, a) -> bit(x.cross(a[0], a[1])), (y, a) -> bit(y.act("cross", a[0], a[1]) != -1));
        changes("keep", 2, (x, a) -> x.keep(a[0], a[1]), (y, a) -> y.act("keep", a[0], a[1]));
        for (boolean so : new boolean[] {true, false}) {
            changes("see " + so, 2, (x, a) -> bit(x.see(a[0], a[1], so)), (y, a) -> bit(y.see(a[0], a[1], so)));
            changes("mark " + so, 1, (x, a) -> bit(x.mark(a[0], so)), (y, a) -> bit(y.mark(a[0], so)));
        }
    }

    private static void windows() {
        asks("chain", 3, (x, a) -> x.chain(a[0], a[1], a[2]), (y, a) -> y.ofWindow(a[0], a[1], a[2], 0));
        asks("ways", 3, (x, a) -> x.ways(a[0], a[1], a[2]), (y, a) -> y.ofWindow(a[0], a[1], a[2], 1));
        asks("must", 3, (x, a) -> x.must(a[0], a[1], a[2]), (y, a) -> y.ofWindow(a[0], a[1], a[2], 2));
        asks("may", 3, (x, a) -> x.may(a[0], a[1], a[2]), (y, a) -> y.ofWindow(a[0], a[1], a[2], 3));
        asks("bare", 3, (x, a) -> x.bare(a[0], a[1], a[2]), (y, a) -> y.ofWindow(a[0], a[1], a[2], 4));
        asks("under", 3, (x, a) -> x.under(a[0], a[1], a[2]), (y, a) -> y.ofWindow(a[0], a[1], a[2], 5));
        asks("pick", 4, (x, a) -> x.pick(a[0], a[1], a[2], a[3]), (y, a) -> y.pick(a[0], a[1], a[2], a[3]));
        asks("piles", 4, (x, a) -> x.piles(a[0], a[1], a[2], a[3]), (y, a) -> y.piles(a[0], a[1], a[2], a[3]));
        asks("shape", 4, (x, a) -> x.shape(a[0], a[1], a[2], a[3]), (y, a) -> y.shape(a[0], a[1], a[2], a[3]));
        asks("common", 4, (x, a) -> x.common(a[0], a[1], a[2], a[3]), (y, a) -> y.common(a[0], a[1], a[2], a[3]));
    }

    private static void wholeRows() {
        asks("strand", 2, (x, a) -> x.strand(a[0], a[1]), (y, a) -> y.strand(a[0], a[1]));
        asks("how", 2, (x, a) -> x.how(a[0], a[1]), (y, a) -> y.how(a[0], a[1]));
        asks("best", 2, (x, a) -> x.best(a[0], a[1]), (y, a) -> y.best(a[0], a[1]));
        asks("near", 2, (x, a) -> x.near(a[0], a[1]), (y, a) -> y.near(a[0], a[1]));
        asks("meets", 3, (x, a) -> x.meets(a[0], a[1], a[2]), (y, a) -> y.meets(a[0], a[1], a[2]));
        asks("fits", 1, (x, a) -> x.fits(a[0]), (y, a) -> y.fits(a[0]));
        asks("first", 1, (x, a) -> x.first(a[0]), (y, a) -> y.first(a[0]));
        asks("ask", 1, (x, a) -> x.ask(a[0]), (y, a) -> y.ask(a[0]));
        asks("drawn", 4, (x, a) -> x.drawn(a[0], a[1], a[2], a[3]), (y, a) -> y.drawn(a[0], a[1], a[2], a[3]));
    }

    private static void braids() {
        asks("ends", 2, (x, a) -> x.ends(a[0], a[1]), (y, a) -> y.ends(a[0], a[1]));
        asks("counts", 3, (x, a) -> x.counts(a[0], a[1], a[2]), (y, a) -> y.counts(a[0], a[1], a[2]));
        asks("compose", 3, (x, a) -> x.compose(a[0], a[1], a[2]), (y, a) -> y.compose(a[0], a[1], a[2]));
        asks("power", 3, (x, a) -> x.power(a[0], a[1], a[2]), (y, a) -> y.power(a[0], a[1], a[2]));
        asks("settles", 1, (x, a) -> x.settles(a[0]), (y, a) -> y.settles(a[0]));
        asks("knit", 2, (x, a) -> x.knit(a[0], a[1]), (y, a) -> y.knit(a[0], a[1]));
        asks("below", 2, (x, a) -> bit(x.below(a[0], a[1])), (y, a) -> bit(y.below(a[0], a[1])));
    }

    public static void main(String[] args) {
        rowsAndBraids();
        changesByHand();
        windows();
        wholeRows();
        braids();
        CHECK.end();
    }
}
