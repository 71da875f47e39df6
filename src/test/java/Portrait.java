import java.util.function.Consumer;
import java.util.function.ToLongFunction;

/**
 * All that an object tells of itself, as a text: two objects in the same state have the same
 * portrait. Taking it uses the object up: changes are undone, marks gone back to, the tape read.
 */
final class Portrait {
    private static final int MOST_CALLS = 512;

    private final ChainIndex x;
    private final StringBuilder text = new StringBuilder();
    private int calls;

    private Portrait(ChainIndex x) {
        this.x = x;
    }

    static String of(ChainIndex x) {
        Portrait p = new Portrait(x);
        p.draw();
        // The document promises nothing of an object behind its 512th call.
        if (p.calls > MOST_CALLS - 60) throw new IllegalStateException(p.calls + " calls for a portrait");
        return p.text.toString();
    }

    /** A refused call answers what is due, and all stays as it was ahead of it. */
    static void stays(Check check, String call, Consumer<ChainIndex> first, ToLongFunction<ChainIndex> refused, long want) {
        ChainIndex with = new ChainIndex();
        ChainIndex without = new ChainIndex();
        first.accept(with);
        first.accept(without);
        check.due(call, refused.applyAsLong(with), want);
        String got = of(with);
        String due = of(without);
        check.due(call + ": all stays (" + got + " against " + due + ")", got.equals(due), true);
    }

    /** An object with something of everything, told, changed, seen, marked, and more on its tape. */
    static void busy(ChainIndex x) {
        Check.index(x, "row r strict 3 1 4; row s sink 2 2; braid x 1 0 2; braid y 0 2 1; weighs number*2-kind;");
        Check.work(x, "append r 7; cut s; cut s; keep x y;");
        x.see(0, 2, true);
        x.mark(1, false);
        x.append(0, 5);
        x.cut(1);
        x.cross(0, 1);
        x.keep(0, 1);
        x.see(1, 1, true);
        x.mark(2, false);
        x.turn(0);
        Check.feed(x, "row q strict 1");
    }

    private void tell(long answer) {
        calls++;
        text.append(answer).append(' ');
    }

    private void draw() {
        for (int what = 0; what <= 7; what++) tell(x.count(what));
        for (int what = 0; what <= 2; what++) tell(x.judged(what));
        state();
        weights();
        seen();
        for (int i = 0; i <= 16; i++) {
            boolean undone = x.undo();
            tell(undone ? 1 : 0);
            if (undone) state();
        }
        for (int mark = 0; mark <= 3; mark++) {
            boolean back = x.mark(mark, true);
            tell(back ? 1 : 0);
            if (back) {
                state();
                seen();
            }
        }
        tell(x.count(3));
        text.append("tape ");
        tell(x.index());
        tell(x.count(0));
    }

    private void state() {
        text.append("rows ");
        int rows = x.count(0);
        int braids = x.count(1);
        for (int row = 0; row < rows; row++) {
            int many = x.row(row, 1);
            tell(x.row(row, 0));
            for (int place = 0; place < many; place++) tell(x.item(row, place));
        }
        text.append("braids ");
        for (int braid = 0; braid < braids; braid++) {
            int strands = x.braid(braid, 0);
            tell(x.braid(braid, 2));
            for (int strand = 0; strand < strands; strand++) tell(x.ends(braid, strand));
        }
        calls += 2 + rows + braids;
    }

    private void weights() {
        for (int row = 0; row < x.count(0); row++) tell(Check.weight(x, row, 0));
        tell(x.drawn(5, 3, 10, 0));
        calls += 5;
    }

    private void seen() {
        text.append("seen ");
        tell(x.count(5));
        for (int row = 0; row < x.count(0); row++) {
            tell(x.fits(row));
            tell(x.first(row));
        }
        calls += 5;
    }
}
