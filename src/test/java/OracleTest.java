import java.util.Random;

/** Random runs of calls on the class and on the reference: every answer must be the same. */
public final class OracleTest {
    private static final int RUNS = 1500;
    /** What comes behind 512 calls is free; a text that is fed last may take up to 90 of them. */
    private static final int CALLS = 420;
    private static final int[] ODD = {Integer.MIN_VALUE, -100, -3, -2, -1, 20, 21, 22, 99, 100, 1000, Integer.MAX_VALUE};
    private static final String[] WORDS = {"row", "braid", "weighs", "append", "cut", "turn", "cross", "keep", "strict",
        "weak", "down", "sink", "not", "and", "or", "number", "place", "many", "kind", "ab", "x", "toolongname", "12345",
        "100", "7", "0", "(", ")", "<", "=", "+", "-", "*", ";", "!", "A", "\n", "9999"};

    private final Random random;
    private final Check check;
    private final ChainIndex x = new ChainIndex();
    private final Reference y = new Reference();
    private final StringBuilder log = new StringBuilder();
    private int calls;

    private OracleTest(long seed, Check check) {
        this.random = new Random(seed);
        this.check = check;
        log.append("seed ").append(seed).append('\n');
    }

    private int below(int n) {
        return random.nextInt(n);
    }

    /** Mostly 0 to n - 1, now and then far off. */
    private int near(int n) {
        return below(25) == 0 ? ODD[below(ODD.length)] : below(20) == 0 ? n : below(Math.max(n, 1));
    }

    private String gap() {
        return below(12) == 0 ? "" : below(12) == 0 ? "\n " : " ";
    }

    private String law(int depth) {
        StringBuilder s = new StringBuilder();
        int parts = 1 + below(depth == 0 ? 5 : 2);
        boolean compared = false;
        for (int i = 0; i < parts; i++) {
            if (i > 0) {
                int op = below(compared ? 5 : 7);
                compared = op < 2 ? false : compared || op > 4;
                s.append(gap()).append(new String[] {" and ", " or ", "+", "-", "*", "<", "="}[op]).append(gap());
            }
            int kind = below(depth < 5 ? 10 : 7);
            if (kind < 2) s.append(" ").append(below(4) == 0 ? below(10000) : below(30));
            else if (kind < 7) s.append(" ").append(new String[] {"number", "place", "many", "kind", "number"}[kind - 2]);
            else if (kind < 8) s.append(" not ").append(depth >= 4 ? "place" : "(" + law(depth + 2) + ")");
            else s.append("(").append(law(depth + 1)).append(")");
        }
        return s.toString();
    }

    private String index() {
        StringBuilder s = new StringBuilder();
        int rows = below(5);
        int braids = below(5);
        // Long rows only of numbers far apart: the reference tries all chains.
        boolean isLong = below(5) == 0;
        int lawAt = !isLong && below(3) == 0 ? below(rows + 1) : -1;
        int range = isLong ? 100 : 1 + below(below(2) == 0 ? 100 : 8);
        int strands = 1 + below(10);
        for (int i = 0; i < rows; i++) {
            if (i == lawAt) s.append("weighs ").append(law(0)).append(gap()).append(";");
            s.append(gap()).append("row r").append((char) ('a' + i)).append(' ');
            s.append(Reference.KINDS.get(below(4)));
            int n = isLong ? 14 + below(7) : 1 + below(below(4) == 0 ? 14 : 8);
            for (int k = 0; k < n; k++) s.append(' ').append(below(range));
            s.append(gap()).append(';');
        }
        for (int i = 0; i < braids; i++) {
            if (below(4) == 0) strands = 1 + below(10);
            s.append(gap()).append("braid b").append((char) ('a' + i));
            java.util.List<Integer> ends = new java.util.ArrayList<>();
            for (int k = 0; k < strands; k++) ends.add(k);
            if (below(2) == 0) java.util.Collections.shuffle(ends, random);
            else for (int k = 0; k < 3; k++) if (strands > 1) java.util.Collections.swap(ends, k % (strands - 1), k % (strands - 1) + 1);
            for (int e : ends) s.append(' ').append(e);
            s.append(gap()).append(';');
        }
        return s.toString();
    }

    private String work() {
        StringBuilder s = new StringBuilder();
        int n = below(below(10) == 0 ? 33 : 12);
        String[] rows = y.rowNames.keySet().toArray(new String[0]);
        String[] braids = y.braidNames.keySet().toArray(new String[0]);
        for (int i = 0; i < n; i++) {
            int verb = below(5);
            if (verb < 3 && rows.length > 0) {
                s.append(new String[] {"append", "cut", "turn"}[verb]).append(' ').append(rows[below(rows.length)]);
                if (verb == 0) s.append(gap()).append(below(100));
                s.append(gap()).append(';');
            } else if (verb >= 3 && braids.length > 0) {
                s.append(verb == 3 ? "cross " : "keep ").append(braids[below(braids.length)]);
                if (verb == 3) s.append(gap()).append(below(9));
                else s.append(' ').append(braids[below(braids.length)]);
                s.append(gap()).append(';');
            }
        }
        return s.toString();
    }

    /** A text with something put in, taken out, doubled or cut off. */
    private String spoilt(String text) {
        StringBuilder s = new StringBuilder(text);
        int times = 1 + below(2);
        for (int i = 0; i < times; i++) {
            int at = below(s.length() + 1);
            int kind = below(5);
            if (kind == 0) s.insert(at, " " + WORDS[below(WORDS.length)] + " ");
            else if (kind == 1) s.insert(at, WORDS[below(WORDS.length)]);
            else if (kind == 2) s.setLength(at);
            else if (kind == 3 && at < s.length()) s.deleteCharAt(at);
            else s.append(text.substring(Math.min(at, text.length())));
        }
        return s.toString();
    }

    private String jumble() {
        StringBuilder s = new StringBuilder(below(2) == 0 ? "weighs " : "");
        int n = below(12);
        for (int i = 0; i < n; i++) s.append(WORDS[below(WORDS.length)]).append(gap());
        return s.toString();
    }

    private void feed(String text) {
        for (int i = 0; i < text.length(); i += 24) {
            long a = Check.pack(text, i);
            long b = Check.pack(text, i + 8);
            long c = Check.pack(text, i + 16);
            due("feed " + text.substring(i, Math.min(text.length(), i + 24)), x.feed(a, b, c), y.feed(a, b, c));
        }
    }

    private void due(String call, long got, long want) {
        calls++;
        log.append(call).append(" -> ").append(got).append('\n');
        int before = check.wrongOnes();
        check.due(call, got, want);
        if (check.wrongOnes() != before && check.wrongOnes() < 4) {
            System.out.println(log + "" + y);
        }
    }

    private void due(String call, boolean got, boolean want) {
        due(call, got ? 1 : 0, want ? 1 : 0);
    }

    private void tell() {
        boolean isIndex = below(2) == 0;
        String text = isIndex ? index() : work();
        int way = below(6);
        if (way == 0) text = jumble();
        else if (way < 3) text = spoilt(text);
        feed(text);
        if (isIndex) due("index", x.index(), y.index());
        else due("work", x.work(), y.work());
    }

    private void change() {
        int r = near(y.live.rows.size());
        int b = near(y.live.braids.size());
        int o = near(y.live.braids.size());
        switch (below(9)) {
            case 0: {
                int n = near(100);
                due("append " + r + " " + n, x.append(r, n), y.act("append", r, n));
                break;
            }
            case 1: due("cut " + r, x.cut(r), y.act("cut", r, 0)); break;
            case 2: due("turn " + r, x.turn(r), y.act("turn", r, 0) != -1); break;
            case 3:
            case 4: {
                int at = near(9);
                due("cross " + b + " " + at, x.cross(b, at), y.act("cross", b, at) != -1);
                break;
            }
            case 5: due("keep " + b + " " + o, x.keep(b, o), y.act("keep", b, o)); break;
            case 6: due("undo", x.undo(), y.undo()); break;
            case 7: {
                int m = near(4);
                boolean back = below(2) == 0;
                due("mark " + m + " " + back, x.mark(m, back), y.mark(m, back));
                break;
            }
            default: {
                int l = below(3) == 0 ? near(21) : 1 + below(5);
                boolean more = below(2) == 0;
                if (below(3) == 0) due("see " + r + " " + l + " " + more, x.see(r, l, more), y.see(r, l, more));
                else due("undo", x.undo(), y.undo());
            }
        }
    }

    private void askWindow() {
        int r = near(y.live.rows.size());
        int n = y.row(r, 1) < 0 ? 3 : y.row(r, 1);
        int from = near(n + 1);
        int to = below(10) == 0 ? near(n + 1) : from >= 0 && from <= n ? from + below(n - from + 1) : near(n + 1);
        String at = " " + r + " " + from + " " + to;
        int i = near(6);
        int p = below(3) == 0 ? -1 : near(n + 1);
        int o = near(y.live.rows.size());
        switch (below(10)) {
            case 0: due("chain" + at, x.chain(r, from, to), y.ofWindow(r, from, to, 0)); break;
            case 1: due("ways" + at, x.ways(r, from, to), y.ofWindow(r, from, to, 1)); break;
            case 2: due("must" + at, x.must(r, from, to), y.ofWindow(r, from, to, 2)); break;
            case 3: due("may" + at, x.may(r, from, to), y.ofWindow(r, from, to, 3)); break;
            case 4: due("bare" + at, x.bare(r, from, to), y.ofWindow(r, from, to, 4)); break;
            case 5: due("under" + at, x.under(r, from, to), y.ofWindow(r, from, to, 5)); break;
            case 6: due("pick" + at + " " + i, x.pick(r, from, to, i), y.pick(r, from, to, i)); break;
            case 7: due("piles" + at + " " + p, x.piles(r, from, to, p), y.piles(r, from, to, p)); break;
            case 8: due("shape" + at + " " + i, x.shape(r, from, to, i), y.shape(r, from, to, i)); break;
            default: due("common " + o + at, x.common(o, r, from, to), y.common(o, r, from, to)); break;
        }
    }

    private void askRow() {
        int r = near(y.live.rows.size());
        int o = near(y.live.rows.size());
        int n = y.row(r, 1) < 0 ? 3 : y.row(r, 1);
        int p = near(n);
        int l = below(4) == 0 ? near(21) : near(6);
        switch (below(12)) {
            case 0: due("row " + r + " " + p, x.row(r, p % 4), y.row(r, p % 4)); break;
            case 1: due("item " + r + " " + p, x.item(r, p), y.item(r, p)); break;
            case 2: due("weight " + r + " " + p, Check.weight(x, r, p), y.weight(r, p)); break;
            case 3: due("strand " + r + " " + p, x.strand(r, p), y.strand(r, p)); break;
            case 4: due("how " + r + " " + l, x.how(r, l), y.how(r, l)); break;
            case 5: due("best " + r + " " + p, x.best(r, p), y.best(r, p)); break;
            case 6: due("near " + r + " " + l, x.near(r, l), y.near(r, l)); break;
            case 7: due("meets " + o + " " + r + " " + p, x.meets(o, r, p), y.meets(o, r, p)); break;
            case 8: due("fits " + r, x.fits(r), y.fits(r)); break;
            case 9: due("first " + r, x.first(r), y.first(r)); break;
            case 10: due("ask " + r, x.ask(r), y.ask(r)); break;
            default: {
                int seed = below(10) == 0 ? near(10000) : below(10000);
                int m = below(10) == 0 ? near(21) : 1 + below(12);
                int u = below(10) == 0 ? near(101) : 1 + below(100);
                int w = near(3);
                due("drawn " + seed + " " + m + " " + u + " " + w, x.drawn(seed, m, u, w), y.drawn(seed, m, u, w));
            }
        }
    }

    private void askBraid() {
        int b = near(y.live.braids.size());
        int o = near(y.live.braids.size());
        int m = y.braid(b, 0) < 0 ? 3 : y.braid(b, 0);
        int s = near(m);
        int k = near(m + 1);
        int t = near(21);
        int i = near(below(2) == 0 ? 47 : 6);
        switch (below(9)) {
            case 0: due("braid " + b + " " + k % 4, x.braid(b, k % 4), y.braid(b, k % 4)); break;
            case 1: due("ends " + b + " " + s, x.ends(b, s), y.ends(b, s)); break;
            case 2: due("counts " + b + " " + s + " " + k, x.counts(b, s, k), y.counts(b, s, k)); break;
            case 3: due("compose " + b + " " + o + " " + s, x.compose(b, o, s), y.compose(b, o, s)); break;
            case 4: due("power " + b + " " + t + " " + s, x.power(b, t, s), y.power(b, t, s)); break;
            case 5: due("settles " + b, x.settles(b), y.settles(b)); break;
            case 6: due("knit " + b + " " + i, x.knit(b, i), y.knit(b, i)); break;
            case 7: due("below " + b + " " + o, x.below(b, o), y.below(b, o)); break;
            default: {
                int w = near(3);
                due("judged " + w, x.judged(w), y.judged(w));
            }
        }
    }

    private void run() {
        feed(index());
        due("index", x.index(), y.index());
        while (calls < CALLS) {
            int kind = below(100);
            if (kind < 3) tell();
            else if (kind < 25) change();
            else if (kind < 50) askWindow();
            else if (kind < 75) askRow();
            else if (kind < 95) askBraid();
            else {
                int w = near(8);
                due("count " + w, x.count(w), y.count(w));
            }
        }
    }

    public static void main(String[] args) {
        Check check = new Check("OracleTest");
        int runs = args.length > 0 ? Integer.parseInt(args[0]) : RUNS;
        long base = args.length > 1 ? Long.parseLong(args[1]) : 0;
        for (long seed = base; seed < base + runs; seed++) {
            new OracleTest(seed, check).run();
        }
        check.end();
    }
}
