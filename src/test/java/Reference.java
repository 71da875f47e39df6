import java.util.ArrayDeque;
import java.util.ArrayList;
import java.util.Arrays;
import java.util.Collections;
import java.util.Deque;
import java.util.HashMap;
import java.util.LinkedHashMap;
import java.util.List;
import java.util.Map;
import java.util.Set;
import java.util.TreeSet;

/**
 * The document's words, word for word and without regard to speed: chains by trying all
 * of them, braids by crossings, faults by a reader that throws. Used as an oracle.
 */
final class Reference {
    static final int NONE = -1;
    static final List<String> KINDS = List.of("strict", "weak", "down", "sink");
    static final List<String> RESERVED = List.of("row", "braid", "weighs", "append", "cut", "turn",
            "cross", "keep", "strict", "weak", "down", "sink", "not", "and", "or");
    static final List<String> FACTS = List.of("number", "place", "many", "kind");

    static final class RowOf {
        int kind;
        List<Integer> numbers = new ArrayList<>();

        RowOf copy() {
            RowOf c = new RowOf();
            c.kind = kind;
            c.numbers = new ArrayList<>(numbers);
            return c;
        }
    }

    static final class BraidOf {
        List<Integer> ends = new ArrayList<>();
        int made;

        BraidOf copy() {
            BraidOf c = new BraidOf();
            c.ends = new ArrayList<>(ends);
            c.made = made;
            return c;
        }
    }

    record Seen(int row, int length, boolean more) { }

    record Line(String verb, int a, int b) { }

    static final class State {
        List<RowOf> rows = new ArrayList<>();
        List<BraidOf> braids = new ArrayList<>();
        List<Seen> seen = new ArrayList<>();

        State copy() {
            State c = new State();
            for (RowOf r : rows) c.rows.add(r.copy());
            for (BraidOf b : braids) c.braids.add(b.copy());
            c.seen = new ArrayList<>(seen);
            return c;
        }
    }

    /** A law is a tree that is walked for each weight. */
    interface E {
        int of(int number, int place, int many, int kind);
    }

    static final class Fault extends Exception {
        private static final long serialVersionUID = 1;
        final int code;

        Fault(int kind, int place) {
            code = kind + 16 * place;
        }
    }

    record Token(char type, String text, int place) { }

    StringBuilder tape = new StringBuilder();
    State live = new State();
    State told = new State();
    Map<String, Integer> rowNames = new LinkedHashMap<>();
    Map<String, Integer> braidNames = new LinkedHashMap<>();
    E law = (n, p, m, k) -> n;
    List<Line> work = new ArrayList<>();
    Deque<State> before = new ArrayDeque<>();
    Map<Integer, State> marks = new HashMap<>();
    int made;

    // ---- reading ----

    static List<Token> tokens(String text) {
        List<Token> all = new ArrayList<>();
        int i = 0;
        while (i < text.length()) {
            char c = text.charAt(i);
            int j = i + 1;
            char type;
            if (c == ' ' || c == '\n') {
                i++;
                continue;
            } else if (c >= 'a' && c <= 'z') {
                while (j < text.length() && Character.isLowerCase(text.charAt(j))) j++;
                type = j - i <= 8 ? 'w' : '?';
            } else if (c >= '0' && c <= '9') {
                while (j < text.length() && Character.isDigit(text.charAt(j))) j++;
                type = j - i <= 4 ? 'n' : '?';
            } else {
                type = "()<=+-*;".contains("" + c) ? 's' : '?';
            }
            all.add(new Token(type, text.substring(i, j), i));
            i = j;
        }
        all.add(new Token('e', "", text.length()));
        return all;
    }

    static final class Parser {
        final List<Token> tokens;
        int at;

        Parser(String text) {
            tokens = tokens(text);
        }

        Token look() {
            return tokens.get(at);
        }

        Token take() {
            return tokens.get(at++);
        }

        boolean is(String text) {
            return look().type != '?' && look().text.equals(text) && look().type != 'e';
        }

        void must(String text) throws Fault {
            if (!is(text)) throw new Fault(1, look().place);
            at++;
        }

        Token name() throws Fault {
            Token t = look();
            if (t.type != 'w' || RESERVED.contains(t.text)) throw new Fault(1, t.place);
            at++;
            return t;
        }

        Token number() throws Fault {
            Token t = look();
            if (t.type != 'n') throw new Fault(1, t.place);
            at++;
            return t;
        }

        E e(int depth) throws Fault {
            E left = test(depth);
            while (is("and") || is("or")) {
                boolean and = take().text.equals("and");
                E l = left;
                E r = test(depth);
                left = (n, p, m, k) -> {
                    boolean a = l.of(n, p, m, k) != 0;
                    boolean b = r.of(n, p, m, k) != 0;
                    return (and ? a && b : a || b) ? 1 : 0;
                };
            }
            return left;
        }

        E test(int depth) throws Fault {
            E l = sum(depth);
            if (is("<")) {
                at++;
                E r = sum(depth);
                return (n, p, m, k) -> l.of(n, p, m, k) < r.of(n, p, m, k) ? 1 : 0;
            }
            if (is("=")) {
                at++;
                E r = sum(depth);
                return (n, p, m, k) -> l.of(n, p, m, k) == r.of(n, p, m, k) ? 1 : 0;
            }
            return l;
        }

        E sum(int depth) throws Fault {
            E left = product(depth);
            while (is("+") || is("-")) {
                boolean plus = take().text.equals("+");
                E l = left;
                E r = product(depth);
                left = (n, p, m, k) -> plus ? l.of(n, p, m, k) + r.of(n, p, m, k)
                        : l.of(n, p, m, k) - r.of(n, p, m, k);
            }
            return left;
        }

        E product(int depth) throws Fault {
            E left = part(depth);
            while (is("*")) {
                at++;
                E l = left;
                E r = part(depth);
                left = (n, p, m, k) -> l.of(n, p, m, k) * r.of(n, p, m, k);
            }
            return left;
        }

        E part(int depth) throws Fault {
            Token t = look();
            boolean fact = t.type == 'w' && FACTS.contains(t.text);
            if (t.type != 'n' && !fact && !is("not") && !is("(")) throw new Fault(1, t.place);
            if (depth == 5) throw new Fault(5, t.place);
            at++;
            if (t.type == 'n') {
                int value = Integer.parseInt(t.text);
                return (n, p, m, k) -> value;
            }
            if (t.text.equals("not")) {
                E of = part(depth + 1);
                return (n, p, m, k) -> of.of(n, p, m, k) == 0 ? 1 : 0;
            }
            if (t.text.equals("(")) {
                E of = e(depth + 1);
                must(")");
                return of;
            }
            switch (t.text) {
                case "number": return (n, p, m, k) -> n;
                case "place": return (n, p, m, k) -> p;
                case "many": return (n, p, m, k) -> m;
                default: return (n, p, m, k) -> k;
            }
        }
    }

    int feed(long a, long b, long c) {
        for (long l : new long[] {a, b, c}) {
            for (int i = 7; i >= 0; i--) {
                int sign = (int) (l >> (8 * i)) & 0xff;
                if ((sign == 10 || sign >= 32 && sign <= 126) && tape.length() < 1000) tape.append((char) sign);
            }
        }
        return tape.length();
    }

    int index() {
        String text = tape.toString();
        tape.setLength(0);
        State s = new State();
        Map<String, Integer> rn = new LinkedHashMap<>();
        Map<String, Integer> bn = new LinkedHashMap<>();
        E[] e = new E[1];
        try {
            Parser p = new Parser(text);
            while (p.look().type != 'e') statement(p, s, rn, bn, e);
        } catch (Fault f) {
            return f.code;
        }
        told = s;
        live = s.copy();
        rowNames = rn;
        braidNames = bn;
        law = e[0] == null ? (n, p, m, k) -> n : e[0];
        work = new ArrayList<>();
        before.clear();
        marks.clear();
        made = s.braids.size();
        return 0;
    }

    private void statement(Parser p, State s, Map<String, Integer> rn, Map<String, Integer> bn, E[] e) throws Fault {
        int place = p.look().place;
        if (p.is("weighs")) {
            if (e[0] != null) throw new Fault(3, place);
            p.at++;
            e[0] = p.e(0);
            p.must(";");
            return;
        }
        if (!p.is("row") && !p.is("braid")) throw new Fault(1, place);
        boolean isRow = p.take().text.equals("row");
        if ((isRow ? rn : bn).size() == 4) throw new Fault(5, place);
        Token name = p.name();
        if (rn.containsKey(name.text) || bn.containsKey(name.text)) throw new Fault(3, name.place);
        if (isRow) {
            RowOf r = new RowOf();
            Token kind = p.take();
            if (kind.type != 'w' || !KINDS.contains(kind.text)) throw new Fault(1, kind.place);
            r.kind = KINDS.indexOf(kind.text);
            do {
                Token t = p.number();
                if (Integer.parseInt(t.text) > 99) throw new Fault(4, t.place);
                if (r.numbers.size() == 20) throw new Fault(5, t.place);
                r.numbers.add(Integer.parseInt(t.text));
            } while (!p.is(";"));
            p.must(";");
            rn.put(name.text, s.rows.size());
            s.rows.add(r);
        } else {
            BraidOf b = new BraidOf();
            do {
                Token t = p.number();
                int value = Integer.parseInt(t.text);
                if (b.ends.contains(value)) throw new Fault(3, t.place);
                if (value > 9) throw new Fault(4, t.place);
                b.ends.add(value);
            } while (!p.is(";"));
            for (int end : b.ends) if (end >= b.ends.size()) throw new Fault(5, p.look().place);
            p.must(";");
            b.made = s.braids.size();
            bn.put(name.text, s.braids.size());
            s.braids.add(b);
        }
    }

    int work() {
        String text = tape.toString();
        tape.setLength(0);
        List<Line> all = new ArrayList<>();
        try {
            Parser p = new Parser(text);
            while (p.look().type != 'e') {
                Token verb = p.take();
                if (verb.type != 'w' || !List.of("append", "cut", "turn", "cross", "keep").contains(verb.text)) {
                    throw new Fault(1, verb.place);
                }
                if (all.size() == 30) throw new Fault(5, verb.place);
                boolean ofRow = List.of("append", "cut", "turn").contains(verb.text);
                int a = toldName(p, ofRow ? rowNames : braidNames);
                int b = 0;
                if (verb.text.equals("append")) b = limited(p, 99);
                if (verb.text.equals("cross")) b = limited(p, 8);
                if (verb.text.equals("keep")) b = toldName(p, braidNames);
                p.must(";");
                all.add(new Line(verb.text, a, b));
            }
        } catch (Fault f) {
            return f.code;
        }
        work = all;
        return 0;
    }

    private static int toldName(Parser p, Map<String, Integer> names) throws Fault {
        Token t = p.name();
        if (!names.containsKey(t.text)) throw new Fault(2, t.place);
        return names.get(t.text);
    }

    private static int limited(Parser p, int most) throws Fault {
        Token t = p.number();
        if (Integer.parseInt(t.text) > most) throw new Fault(4, t.place);
        return Integer.parseInt(t.text);
    }

    // ---- state ----

    RowOf rowAt(int i) {
        return i >= 0 && i < live.rows.size() ? live.rows.get(i) : null;
    }

    BraidOf braidAt(int i) {
        return i >= 0 && i < live.braids.size() ? live.braids.get(i) : null;
    }

    static boolean place(RowOf r, int p) {
        return r != null && p >= 0 && p < r.numbers.size();
    }

    int row(int row, int what) {
        RowOf r = rowAt(row);
        return r == null ? NONE : what == 0 ? r.kind : what == 1 ? r.numbers.size() : NONE;
    }

    int item(int row, int place) {
        return place(rowAt(row), place) ? rowAt(row).numbers.get(place) : NONE;
    }

    int[] weights(RowOf r) {
        int n = r.numbers.size();
        int[] w = new int[n];
        for (int i = 0; i < n; i++) w[i] = law.of(r.numbers.get(i), i, n, r.kind);
        return w;
    }

    long weight(int row, int place) {
        return place(rowAt(row), place) ? weights(rowAt(row))[place] : Long.MIN_VALUE;
    }

    static int crossings(List<Integer> ends) {
        int pairs = 0;
        for (int i = 0; i < ends.size(); i++) {
            for (int j = i + 1; j < ends.size(); j++) if (ends.get(j) < ends.get(i)) pairs++;
        }
        return pairs;
    }

    int braid(int braid, int what) {
        BraidOf b = braidAt(braid);
        if (b == null) return NONE;
        return what == 0 ? b.ends.size() : what == 1 ? crossings(b.ends) : what == 2 ? b.made : NONE;
    }

    int count(int what) {
        switch (what) {
            case 0: return live.rows.size();
            case 1: return live.braids.size();
            case 2: return live.rows.stream().mapToInt(r -> r.numbers.size()).sum();
            case 3: return made;
            case 4: return work.size();
            case 5: return live.seen.size();
            case 6: return before.size();
            case 7: return tape.length();
            default: return NONE;
        }
    }

    private void changed(State was) {
        before.addLast(was);
        if (before.size() > 16) before.removeFirst();
    }

    static boolean canCross(List<Integer> ends, int at) {
        return at >= 0 && at < ends.size() - 1 && ends.indexOf(at) < ends.indexOf(at + 1);
    }

    static void cross(List<Integer> ends, int at) {
        Collections.swap(ends, ends.indexOf(at), ends.indexOf(at + 1));
    }

    /** The places at which a braid is knit. */
    static List<Integer> knitOf(List<Integer> ends) {
        List<Integer> now = new ArrayList<>();
        for (int i = 0; i < ends.size(); i++) now.add(i);
        List<Integer> places = new ArrayList<>();
        while (!now.equals(ends)) {
            for (int k = 0; k < ends.size() - 1; k++) {
                int a = now.indexOf(k);
                int b = now.indexOf(k + 1);
                if (a < b && ends.get(a) > ends.get(b)) {
                    cross(now, k);
                    places.add(k);
                    break;
                }
            }
        }
        return places;
    }

    /** The first one, and the crossings of the second one behind it that can be. */
    static List<Integer> composed(List<Integer> a, List<Integer> b) {
        List<Integer> now = new ArrayList<>(a);
        for (int k : knitOf(b)) if (canCross(now, k)) cross(now, k);
        return now;
    }

    static int countOf(List<Integer> ends, int i, int k) {
        int n = 0;
        for (int s = i; s < ends.size(); s++) if (ends.get(s) < k) n++;
        return n;
    }

    /** What a verb answers on a state: NONE if it can't be. */
    static int act(State s, String verb, int a, int b) {
        if (verb.equals("append") || verb.equals("cut") || verb.equals("turn")) {
            if (a < 0 || a >= s.rows.size()) return NONE;
            List<Integer> n = s.rows.get(a).numbers;
            if (verb.equals("append")) {
                if (n.size() >= 20 || b < 0 || b > 99) return NONE;
                n.add(b);
                return n.size();
            }
            if (verb.equals("cut")) return n.size() < 2 ? NONE : n.remove(n.size() - 1);
            Collections.reverse(n);
            return 1;
        }
        if (a < 0 || a >= s.braids.size()) return NONE;
        List<Integer> ends = s.braids.get(a).ends;
        if (verb.equals("cross")) {
            if (!canCross(ends, b)) return NONE;
            cross(ends, b);
            return 1;
        }
        if (b < 0 || b >= s.braids.size() || s.braids.size() >= 8) return NONE;
        List<Integer> other = s.braids.get(b).ends;
        if (other.size() != ends.size()) return NONE;
        BraidOf kept = new BraidOf();
        kept.ends = composed(ends, other);
        s.braids.add(kept);
        return s.braids.size() - 1;
    }

    int act(String verb, int a, int b) {
        State was = live.copy();
        int answer = act(live, verb, a, b);
        if (answer == NONE) return NONE;
        changed(was);
        if (verb.equals("keep")) live.braids.get(answer).made = made++;
        return answer;
    }

    boolean undo() {
        if (before.isEmpty()) return false;
        List<Seen> seen = live.seen;
        live = before.removeLast();
        live.seen = seen;
        return true;
    }

    boolean mark(int mark, boolean back) {
        if (mark < 0 || mark > 3 || back && !marks.containsKey(mark)) return false;
        if (back) {
            live = marks.get(mark).copy();
            before.clear();
        } else {
            marks.put(mark, live.copy());
        }
        return true;
    }

    int judged(int what) {
        if (what < 0 || what > 2) return -2;
        State s = told.copy();
        int wrong = NONE;
        for (int i = 0; i < work.size(); i++) {
            Line l = work.get(i);
            if (act(s, l.verb, l.a, l.b) == NONE && wrong == NONE) wrong = i;
        }
        return what == 0 ? wrong : what == 1 ? s.rows.stream().mapToInt(r -> r.numbers.size()).sum() : s.braids.size();
    }

    // ---- chains ----

    static boolean follow(int kind, int later, int earlier) {
        return kind == 0 ? later > earlier : kind == 1 ? later >= earlier : kind == 2 ? later < earlier : later <= earlier;
    }

    boolean window(int row, int from, int to) {
        return rowAt(row) != null && 0 <= from && from <= to && to <= rowAt(row).numbers.size();
    }

    /** All chains of a window, the empty one too, in the order of their places. */
    static void allChains(int[] w, int kind, int next, int to, List<Integer> chain, List<List<Integer>> into) {
        into.add(new ArrayList<>(chain));
        for (int p = next; p < to; p++) {
            if (chain.isEmpty() || follow(kind, w[p], w[chain.get(chain.size() - 1)])) {
                chain.add(p);
                allChains(w, kind, p + 1, to, chain, into);
                chain.remove(chain.size() - 1);
            }
        }
    }

    static List<List<Integer>> longestOnes(int[] w, int kind, int from, int to) {
        List<List<Integer>> all = new ArrayList<>();
        allChains(w, kind, from, to, new ArrayList<>(), all);
        int most = all.stream().mapToInt(List::size).max().getAsInt();
        all.removeIf(c -> c.size() != most);
        return all;
    }

    /** The greatest of a window without listing: the number of piles would do, a plain walk does. */
    static int longOf(int[] w, int kind, int from, int to) {
        return grow(w, kind, from, to, -1, new HashMap<>());
    }

    private static int grow(int[] w, int kind, int next, int to, int last, Map<Integer, Integer> known) {
        if (next >= to) return 0;
        int key = next * 32 + last + 1;
        if (known.containsKey(key)) return known.get(key);
        int most = grow(w, kind, next + 1, to, last, known);
        if (last < 0 || follow(kind, w[next], w[last])) {
            most = Math.max(most, 1 + grow(w, kind, next + 1, to, next, known));
        }
        known.put(key, most);
        return most;
    }

    /** what 0 long, 1 ways, 2 must, 3 may, 4 bare, 5 under. */
    int ofWindow(int row, int from, int to, int what) {
        if (!window(row, from, to)) return NONE;
        RowOf r = rowAt(row);
        int[] w = weights(r);
        if (what == 5) {
            int n = 0;
            for (int a = from; a < to; a++) {
                int b = strandOf(w, r.kind, a);
                if (b >= from && b < to) n++;
            }
            return n;
        }
        List<List<Integer>> longest = longestOnes(w, r.kind, from, to);
        int must = -1;
        int may = 0;
        for (List<Integer> c : longest) {
            int bits = 0;
            for (int p : c) bits |= 1 << p;
            must &= bits;
            may |= bits;
        }
        int size = longest.get(0).size();
        return what == 0 ? size : what == 1 ? longest.size() : what == 2 ? must : what == 3 ? may : to - from - size;
    }

    int pick(int row, int from, int to, int i) {
        if (!window(row, from, to)) return NONE;
        List<Integer> c = longestOnes(weights(rowAt(row)), rowAt(row).kind, from, to).get(0);
        return i >= 0 && i < c.size() ? c.get(i) : NONE;
    }

    static int bareOf(int[] w, int kind, int from, int to) {
        return from > to ? 0 : to - from - longOf(w, kind, from, to);
    }

    static int strandOf(int[] w, int kind, int a) {
        int found = NONE;
        for (int b = a; b < w.length; b++) {
            int d = bareOf(w, kind, a, b + 1) - bareOf(w, kind, a + 1, b + 1) - bareOf(w, kind, a, b) + bareOf(w, kind, a + 1, b);
            if (d != 0 && d != 1 || d == 1 && found != NONE) throw new IllegalStateException("no unit table");
            if (d == 1) found = b;
        }
        return found;
    }

    int strand(int row, int place) {
        return place(rowAt(row), place) ? strandOf(weights(rowAt(row)), rowAt(row).kind, place) : NONE;
    }

    int how(int row, int length) {
        if (rowAt(row) == null || length < 0 || length > 20) return NONE;
        int[] w = weights(rowAt(row));
        int n = 0;
        for (int i = 0; i <= w.length; i++) {
            for (int j = i; j <= w.length; j++) if (longOf(w, rowAt(row).kind, i, j) == length) n++;
        }
        return n;
    }

    int best(int row, int width) {
        if (rowAt(row) == null || width < 0 || width > rowAt(row).numbers.size()) return NONE;
        int[] w = weights(rowAt(row));
        int most = -1;
        int at = NONE;
        for (int i = 0; i + width <= w.length; i++) {
            int l = longOf(w, rowAt(row).kind, i, i + width);
            if (l > most) {
                most = l;
                at = i;
            }
        }
        return at;
    }

    int near(int row, int length) {
        if (rowAt(row) == null || length < 0 || length > 20) return NONE;
        int[] w = weights(rowAt(row));
        int answer = NONE;
        int width = Integer.MAX_VALUE;
        for (int i = 0; i <= w.length; i++) {
            for (int j = i; j <= w.length; j++) {
                if (longOf(w, rowAt(row).kind, i, j) >= length && j - i < width) {
                    width = j - i;
                    answer = 32 * i + j;
                }
            }
        }
        return answer;
    }

    int piles(int row, int from, int to, int place) {
        if (!window(row, from, to) || place != NONE && (place < from || place >= to)) return -2;
        int[] w = weights(rowAt(row));
        List<Deque<Integer>> piles = new ArrayList<>();
        Map<Integer, Integer> on = new HashMap<>();
        for (int p = from; p < to; p++) {
            int k = 0;
            while (k < piles.size() && follow(rowAt(row).kind, w[p], piles.get(k).peekLast())) k++;
            if (k == piles.size()) piles.add(new ArrayDeque<>());
            piles.get(k).addLast(w[p]);
            on.put(p, k);
        }
        return place == NONE ? piles.size() : on.get(place);
    }

    int shape(int row, int from, int to, int i) {
        if (!window(row, from, to) || i < 0 || i > 20) return NONE;
        int kind = rowAt(row).kind;
        int[] w = weights(rowAt(row));
        List<List<Integer>> tableau = new ArrayList<>();
        for (int p = from; p < to; p++) {
            int x = w[p];
            for (int r = 0; ; r++) {
                if (r == tableau.size()) tableau.add(new ArrayList<>());
                List<Integer> line = tableau.get(r);
                if (line.isEmpty() || follow(kind, x, line.get(line.size() - 1))) {
                    line.add(x);
                    break;
                }
                int at = 0;
                while (follow(kind, x, line.get(at))) at++;
                x = line.set(at, x);
            }
        }
        return i < tableau.size() ? tableau.get(i).size() : 0;
    }

    // ---- braids ----

    int ends(int braid, int strand) {
        BraidOf b = braidAt(braid);
        return b != null && strand >= 0 && strand < b.ends.size() ? b.ends.get(strand) : NONE;
    }

    int counts(int braid, int i, int k) {
        BraidOf b = braidAt(braid);
        if (b == null || i < 0 || k < 0 || i > b.ends.size() || k > b.ends.size()) return NONE;
        return countOf(b.ends, i, k);
    }

    boolean alike(int one, int two) {
        return braidAt(one) != null && braidAt(two) != null && braidAt(one).ends.size() == braidAt(two).ends.size();
    }

    int compose(int braid, int other, int strand) {
        if (!alike(braid, other) || strand < 0 || strand >= braidAt(braid).ends.size()) return NONE;
        return composed(braidAt(braid).ends, braidAt(other).ends).get(strand);
    }

    static List<Integer> powerOf(List<Integer> ends, int often) {
        List<Integer> p = ends;
        for (int i = 1; i < often; i++) p = composed(p, ends);
        return p;
    }

    int power(int braid, int often, int strand) {
        if (ends(braid, strand) == NONE || often < 1 || often > 20) return NONE;
        return powerOf(braidAt(braid).ends, often).get(strand);
    }

    int settles(int braid) {
        if (braidAt(braid) == null) return NONE;
        for (int i = 1; i <= 20; i++) {
            if (powerOf(braidAt(braid).ends, i).equals(powerOf(braidAt(braid).ends, i + 1))) return i;
        }
        return NONE;
    }

    int knit(int braid, int i) {
        if (braidAt(braid) == null) return NONE;
        List<Integer> places = knitOf(braidAt(braid).ends);
        return i >= 0 && i < places.size() ? places.get(i) : NONE;
    }

    boolean below(int braid, int other) {
        if (!alike(braid, other)) return false;
        List<Integer> a = braidAt(braid).ends;
        List<Integer> b = braidAt(other).ends;
        for (int i = 0; i <= a.size(); i++) {
            for (int k = 0; k <= a.size(); k++) if (countOf(a, i, k) > countOf(b, i, k)) return false;
        }
        return true;
    }

    // ---- common ----

    static int commonOf(int[] a, int[] b, int from, int to) {
        return shared(a, 0, b, from, to, new HashMap<>());
    }

    private static int shared(int[] a, int i, int[] b, int from, int to, Map<Integer, Integer> known) {
        if (i >= a.length || from >= to) return 0;
        int key = i * 32 + from;
        if (known.containsKey(key)) return known.get(key);
        int most = Math.max(shared(a, i + 1, b, from, to, known), shared(a, i, b, from + 1, to, known));
        if (a[i] == b[from]) most = Math.max(most, 1 + shared(a, i + 1, b, from + 1, to, known));
        known.put(key, most);
        return most;
    }

    int common(int row, int other, int from, int to) {
        if (rowAt(row) == null || !window(other, from, to)) return NONE;
        return commonOf(weights(rowAt(row)), weights(rowAt(other)), from, to);
    }

    static int leftOf(int[] a, int[] b, int from, int to) {
        return from > to ? 0 : to - from - commonOf(a, b, from, to);
    }

    int meets(int row, int other, int place) {
        if (rowAt(row) == null || !place(rowAt(other), place)) return NONE;
        int[] x = weights(rowAt(row));
        int[] y = weights(rowAt(other));
        int found = NONE;
        for (int b = place; b < y.length; b++) {
            int d = leftOf(x, y, place, b + 1) - leftOf(x, y, place + 1, b + 1) - leftOf(x, y, place, b) + leftOf(x, y, place + 1, b);
            if (d != 0 && d != 1 || d == 1 && found != NONE) throw new IllegalStateException("no unit table");
            if (d == 1) found = b;
        }
        return found;
    }

    // ---- seen ----

    boolean see(int row, int length, boolean more) {
        if (rowAt(row) == null || length < 1 || length > 20 || live.seen.size() >= 8) return false;
        live.seen.add(new Seen(row, length, more));
        return true;
    }

    /** The windows that fit, as 32 * from + to, with their lengths. */
    Map<Integer, Integer> fitting(int row) {
        Map<Integer, Integer> all = new LinkedHashMap<>();
        int[] w = weights(rowAt(row));
        for (int i = 0; i < w.length; i++) {
            for (int j = i + 1; j <= w.length; j++) {
                int l = longOf(w, rowAt(row).kind, i, j);
                boolean so = true;
                for (Seen s : live.seen) {
                    if (s.row == row) so &= s.more ? l >= s.length : l < s.length;
                }
                if (so) all.put(32 * i + j, l);
            }
        }
        return all;
    }

    int fits(int row) {
        return rowAt(row) == null ? NONE : fitting(row).size();
    }

    int first(int row) {
        if (rowAt(row) == null || fitting(row).isEmpty()) return NONE;
        return fitting(row).keySet().iterator().next();
    }

    int ask(int row) {
        if (rowAt(row) == null) return NONE;
        Map<Integer, Integer> all = fitting(row);
        int[] greater = new int[21];
        greater[0] = Integer.MAX_VALUE;
        for (int l = 1; l <= 20; l++) {
            int more = 0;
            for (int v : all.values()) if (v >= l) more++;
            greater[l] = Math.max(more, all.size() - more);
        }
        Set<Integer> sorted = new TreeSet<>();
        for (int g : greater) sorted.add(g);
        int least = sorted.iterator().next();
        if (least >= all.size()) return NONE;
        for (int l = 1; l <= 20; l++) if (greater[l] == least) return l;
        return NONE;
    }

    // ---- draws ----

    int drawn(int seed, int many, int below, int what) {
        if (seed < 0 || seed > 9999 || many < 1 || many > 20 || below < 1 || below > 100 || what < 0 || what > 2) return NONE;
        RowOf r = new RowOf();
        java.math.BigInteger g = java.math.BigInteger.valueOf(seed);
        for (int i = 0; i < many; i++) {
            g = g.multiply(java.math.BigInteger.valueOf(1103515245)).add(java.math.BigInteger.valueOf(12345))
                    .mod(java.math.BigInteger.valueOf(2147483648L));
            r.numbers.add((int) (g.longValue() / 65536 % below));
        }
        int[] w = weights(r);
        if (what < 2) {
            List<List<Integer>> all = longestOnes(w, 0, 0, w.length);
            return what == 0 ? all.get(0).size() : all.size();
        }
        int n = 0;
        for (int a = 0; a < w.length; a++) if (strandOf(w, 0, a) != NONE) n++;
        return n;
    }

    @Override
    public String toString() {
        StringBuilder s = new StringBuilder();
        for (RowOf r : live.rows) s.append(r.kind).append(r.numbers).append(Arrays.toString(weights(r)));
        for (BraidOf b : live.braids) s.append(b.ends);
        return s.append(live.seen).toString();
    }
}
