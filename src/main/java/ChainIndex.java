import java.util.NoSuchElementException;

/**
 * Longest chains in every window of rows of numbers, and braids of strands
 * composed by their counts. All room is made with the object, so that no later
 * call makes an object or an array.
 */
public final class ChainIndex {
    public static final int NONE = -1;

    private static final int NEITHER = -2;

    private static final int MOST_SIGNS = 1000;
    private static final int MOST_LETTERS = 8;
    private static final int MOST_DIGITS = 4;
    private static final int MOST_ROWS = 4;
    private static final int MOST_NUMBERS = 20;
    private static final int MOST_NUMBER = 99;
    private static final int MOST_TOLD_BRAIDS = 4;
    private static final int MOST_BRAIDS = 8;
    private static final int MOST_STRANDS = 10;
    private static final int MOST_CROSSINGS = 45;
    private static final int MOST_AT = 8;
    private static final int MOST_LINES = 30;
    private static final int MOST_DEPTH = 5;
    private static final int MOST_SEEN = 8;
    private static final int MOST_UNDONE = 16;
    private static final int MOST_MARKS = 4;
    private static final int MOST_POWER = 20;
    private static final int MOST_WAYS = 2000000000;

    // A nesting level of a law holds one operator of each of the four ranks and
    // what opened it: 25 in all.
    private static final int LAW_STACK = 32;

    private static final int END = 0;
    private static final int ALIEN = 1;
    private static final int WORD = 2;
    private static final int NUMBER = 3;
    private static final int SIGN = 4;

    private static final int CANT_STAND = 1;
    private static final int NOT_TOLD = 2;
    private static final int TOLD_ALREADY = 3;
    private static final int NOT_AS_TOLD = 4;
    private static final int TOO_MANY = 5;

    private static final String SIGNS = "()<=+-*;";

    // The words stand in the order of their codes, each with a blank behind it.
    private static final String KEYWORDS = "row braid weighs append cut turn cross keep strict weak down sink not and or number place many kind ";
    private static final int KEYWORD_COUNT = 19;

    // The codes begin behind all signs, so that a sign is its own code.
    private static final int ROW = 128;
    private static final int BRAID = 129;
    private static final int WEIGHS = 130;
    private static final int APPEND = 131;
    private static final int CUT = 132;
    private static final int TURN = 133;
    private static final int CROSS = 134;
    private static final int KEEP = 135;
    private static final int STRICT = 136;
    private static final int SINK = 139;
    private static final int NOT = 140;
    private static final int AND = 141;
    private static final int OR = 142;
    private static final int FACT_NUMBER = 143;
    private static final int FACT_PLACE = 144;
    private static final int FACT_MANY = 145;
    private static final int FACT_KIND = 146;

    private static final int KIND_STRICT = 0;
    private static final int KIND_WEAK = 1;
    private static final int KIND_DOWN = 2;

    private final Tape tape = new Tape();
    private final Reader reader = new Reader();
    private final Store live = new Store();
    private final Store told = new Store();
    private final Store trial = new Store();
    private final Store[] marks = new Store[MOST_MARKS];
    private final boolean[] laid = new boolean[MOST_MARKS];
    private final Law law = new Law();
    private final Deeds lines = new Deeds(MOST_LINES);
    private final Deeds history = new Deeds(MOST_UNDONE);
    private final Chains chains = new Chains();
    private final Chains others = new Chains();
    private final Windows windows = new Windows();
    private final Tableau tableau = new Tableau();
    private final Composer composer = new Composer();
    private final Row draws = new Row();
    private final int[] tally = new int[MOST_NUMBERS + 1];
    private int made;

    public ChainIndex() {
        for (int i = 0; i < MOST_MARKS; i++) {
            marks[i] = new Store();
        }
    }

    // ---- telling ----

    public int feed(long a, long b, long c) {
        tape.put(a);
        tape.put(b);
        tape.put(c);
        return tape.length;
    }

    public int index() {
        int fault = reader.readIndex(tape);
        tape.wipe();
        if (fault != 0) {
            return fault;
        }
        told.copyFrom(reader.store);
        live.copyFrom(told);
        law.copyFrom(reader.law);
        lines.size = 0;
        history.size = 0;
        for (int i = 0; i < MOST_MARKS; i++) {
            laid[i] = false;
        }
        made = told.braidCount;
        return 0;
    }

    public int work() {
        int fault = reader.readWork(tape, told);
        tape.wipe();
        if (fault == 0) {
            lines.copyFrom(reader.work);
        }
        return fault;
    }

    // ---- rows and braids as they are ----

    public int row(int row, int what) {
        Row found = live.rowAt(row);
        if (found == null) {
            return NONE;
        }
        if (what == 0) {
            return found.kind;
        }
        return what == 1 ? found.many : NONE;
    }

    public int item(int row, int place) {
        Row found = live.rowAt(row);
        if (found == null || !found.hasPlace(place)) {
            return NONE;
        }
        return found.numbers[place];
    }

    public int weight(int row, int place) throws NoSuchElementException {
        Row found = live.rowAt(row);
        if (found == null || !found.hasPlace(place)) {
            throw new NoSuchElementException("no such place");
        }
        return law.weigh(found.numbers[place], place, found.many, found.kind);
    }

    public int braid(int braid, int what) {
        Braid found = live.braidAt(braid);
        if (found == null) {
            return NONE;
        }
        if (what == 0) {
            return found.strands;
        }
        if (what == 1) {
            return found.crossings();
        }
        return what == 2 ? found.made : NONE;
    }

    public int count(int what) {
        switch (what) {
            case 0: return live.rowCount;
            case 1: return live.braidCount;
            case 2: return live.allNumbers();
            case 3: return made;
            case 4: return lines.size;
            case 5: return live.seenCount;
            case 6: return history.size;
            case 7: return tape.length;
            default: return NONE;
        }
    }

    // ---- changes by hand ----

    public int append(int row, int number) {
        int many = live.grow(row, number);
        if (many != NONE) {
            history.add(APPEND, row, number);
        }
        return many;
    }

    public int cut(int row) {
        int gone = live.shrink(row);
        if (gone != NONE) {
            history.add(CUT, row, gone);
        }
        return gone;
    }

    public boolean turn(int row) {
        boolean turned = live.reverse(row);
        if (turned) {
            history.add(TURN, row, 0);
        }
        return turned;
    }

    public boolean cross(int braid, int at) {
        boolean crossed = live.crossOver(braid, at);
        if (crossed) {
            history.add(CROSS, braid, at);
        }
        return crossed;
    }

    public int keep(int braid, int other) {
        int number = live.combine(braid, other, composer);
        Braid kept = live.braidAt(number);
        if (kept == null) {
            return NONE;
        }
        kept.made = made;
        made++;
        history.add(KEEP, number, 0);
        return number;
    }

    public boolean undo() {
        int last = history.size - 1;
        if (last < 0) {
            return false;
        }
        int which = history.whichOf(last);
        int value = history.valueOf(last);
        switch (history.verbOf(last)) {
            case APPEND: live.shrink(which); break;
            case CUT: live.grow(which, value); break;
            case TURN: live.reverse(which); break;
            case CROSS: live.crossBack(which, value); break;
            default: live.dropBraid(); break;
        }
        history.size = last;
        return true;
    }

    public boolean mark(int mark, boolean back) {
        if (mark < 0 || mark >= MOST_MARKS) {
            return false;
        }
        if (!back) {
            marks[mark].copyFrom(live);
            laid[mark] = true;
            return true;
        }
        if (!laid[mark]) {
            return false;
        }
        live.copyFrom(marks[mark]);
        history.size = 0;
        return true;
    }

    public int judged(int what) {
        if (what < 0 || what > 2) {
            return NEITHER;
        }
        trial.copyFrom(told);
        int firstWrong = NONE;
        for (int i = 0; i < lines.size; i++) {
            boolean can = doLine(trial, lines.verbOf(i), lines.whichOf(i), lines.valueOf(i));
            if (!can && firstWrong == NONE) {
                firstWrong = i;
            }
        }
        if (what == 0) {
            return firstWrong;
        }
        return what == 1 ? trial.allNumbers() : trial.braidCount;
    }

    private boolean doLine(Store store, int verb, int which, int second) {
        switch (verb) {
            case APPEND: return store.grow(which, second) != NONE;
            case CUT: return store.shrink(which) != NONE;
            case TURN: return store.reverse(which);
            case CROSS: return store.crossOver(which, second);
            default: return store.combine(which, second, composer) != NONE;
        }
    }

    // ---- chains of a window ----

    public int chain(int row, int from, int to) {
        return loadWindow(row, from, to) ? chains.longest : NONE;
    }

    public int pick(int row, int from, int to, int i) {
        return loadWindow(row, from, to) ? chains.placeOfFirst(i) : NONE;
    }

    public int ways(int row, int from, int to) {
        return loadWindow(row, from, to) ? chains.countWays() : NONE;
    }

    public int must(int row, int from, int to) {
        return loadWindow(row, from, to) ? chains.mustBits() : NONE;
    }

    public int may(int row, int from, int to) {
        return loadWindow(row, from, to) ? chains.mayBits() : NONE;
    }

    public int bare(int row, int from, int to) {
        return loadWindow(row, from, to) ? to - from - chains.longest : NONE;
    }

    public int piles(int row, int from, int to, int place) {
        Row found = live.rowAt(row);
        if (!isWindow(found, from, to)) {
            return NEITHER;
        }
        if (place != NONE && (place < from || place >= to)) {
            return NEITHER;
        }
        chains.load(found, law);
        return tableau.pile(chains, from, to, place);
    }

    public int shape(int row, int from, int to, int i) {
        Row found = live.rowAt(row);
        if (!isWindow(found, from, to) || i < 0 || i > MOST_NUMBERS) {
            return NONE;
        }
        chains.load(found, law);
        tableau.fill(chains, from, to);
        return tableau.sizeOf(i);
    }

    private boolean isWindow(Row row, int from, int to) {
        return row != null && from >= 0 && from <= to && to <= row.many;
    }

    private boolean loadWindow(int row, int from, int to) {
        Row found = live.rowAt(row);
        if (!isWindow(found, from, to)) {
            return false;
        }
        chains.load(found, law);
        chains.measure(from, to);
        return true;
    }

    // ---- all windows of a row ----

    public int strand(int row, int place) {
        Row found = live.rowAt(row);
        if (found == null || !found.hasPlace(place)) {
            return NONE;
        }
        fillWindows(found);
        return windows.strandFrom(place);
    }

    public int under(int row, int from, int to) {
        Row found = live.rowAt(row);
        if (!isWindow(found, from, to)) {
            return NONE;
        }
        fillWindows(found);
        return windows.strandsWithin(from, to);
    }

    public int how(int row, int length) {
        Row found = live.rowAt(row);
        if (found == null || length < 0 || length > MOST_NUMBERS) {
            return NONE;
        }
        fillWindows(found);
        return windows.having(length);
    }

    public int best(int row, int width) {
        Row found = live.rowAt(row);
        if (found == null || width < 0 || width > found.many) {
            return NONE;
        }
        fillWindows(found);
        return windows.bestFrom(width);
    }

    public int near(int row, int length) {
        Row found = live.rowAt(row);
        if (found == null || length < 0 || length > MOST_NUMBERS) {
            return NONE;
        }
        fillWindows(found);
        return windows.narrowest(length);
    }

    private void fillWindows(Row row) {
        chains.load(row, law);
        windows.fillChains(chains);
    }

    // ---- common chains of two rows ----

    public int common(int row, int other, int from, int to) {
        Row one = live.rowAt(row);
        Row two = live.rowAt(other);
        if (one == null || !isWindow(two, from, to)) {
            return NONE;
        }
        fillCommon(one, two);
        return windows.lengthOf(from, to);
    }

    public int meets(int row, int other, int place) {
        Row one = live.rowAt(row);
        Row two = live.rowAt(other);
        if (one == null || two == null || !two.hasPlace(place)) {
            return NONE;
        }
        fillCommon(one, two);
        return windows.strandFrom(place);
    }

    private void fillCommon(Row one, Row two) {
        others.load(one, law);
        chains.load(two, law);
        windows.fillCommon(others, chains);
    }

    // ---- braids ----

    public int ends(int braid, int strand) {
        Braid found = live.braidAt(braid);
        if (found == null || !found.hasStrand(strand)) {
            return NONE;
        }
        return found.ends[strand];
    }

    public int counts(int braid, int i, int k) {
        Braid found = live.braidAt(braid);
        if (found == null || i < 0 || i > found.strands || k < 0 || k > found.strands) {
            return NONE;
        }
        return found.countOf(i, k);
    }

    public int compose(int braid, int other, int strand) {
        Braid one = live.braidAt(braid);
        Braid two = live.braidAt(other);
        if (!areAlike(one, two) || !one.hasStrand(strand)) {
            return NONE;
        }
        composer.join(one, two, composer.result);
        return composer.result.ends[strand];
    }

    public int power(int braid, int often, int strand) {
        Braid found = live.braidAt(braid);
        if (found == null || often < 1 || often > MOST_POWER || !found.hasStrand(strand)) {
            return NONE;
        }
        composer.raise(found, often);
        return composer.power.ends[strand];
    }

    public int settles(int braid) {
        Braid found = live.braidAt(braid);
        if (found == null) {
            return NONE;
        }
        int settled = composer.raise(found, MOST_POWER + 1);
        return settled <= MOST_POWER ? settled : NONE;
    }

    public int knit(int braid, int i) {
        Braid found = live.braidAt(braid);
        if (found == null || i < 0 || i >= MOST_CROSSINGS) {
            return NONE;
        }
        return composer.knitStep(found, i);
    }

    public boolean below(int braid, int other) {
        Braid one = live.braidAt(braid);
        Braid two = live.braidAt(other);
        return areAlike(one, two) && composer.isUnder(one, two);
    }

    private static boolean areAlike(Braid one, Braid two) {
        return one != null && two != null && one.strands == two.strands;
    }

    // ---- which window it was ----

    public boolean see(int row, int length, boolean more) {
        if (live.rowAt(row) == null || length < 1 || length > MOST_NUMBERS) {
            return false;
        }
        return live.addSeen(row, length, more);
    }

    public int fits(int row) {
        Row found = live.rowAt(row);
        if (found == null) {
            return NONE;
        }
        return tallyFits(found, row);
    }

    public int first(int row) {
        Row found = live.rowAt(row);
        if (found == null) {
            return NONE;
        }
        fillWindows(found);
        for (int from = 0; from < found.many; from++) {
            for (int to = from + 1; to <= found.many; to++) {
                if (live.agrees(row, windows.lengthOf(from, to))) {
                    return 32 * from + to;
                }
            }
        }
        return NONE;
    }

    public int ask(int row) {
        Row found = live.rowAt(row);
        if (found == null) {
            return NONE;
        }
        int all = tallyFits(found, row);
        int least = all;
        int answer = NONE;
        int less = tally[0];
        for (int length = 1; length <= MOST_NUMBERS; length++) {
            int greater = Math.max(less, all - less);
            if (greater < least) {
                least = greater;
                answer = length;
            }
            less += tally[length];
        }
        return answer;
    }

    /** How many windows fit; the tally tells how many of them by their length. */
    private int tallyFits(Row found, int row) {
        fillWindows(found);
        for (int length = 0; length <= MOST_NUMBERS; length++) {
            tally[length] = 0;
        }
        int all = 0;
        for (int from = 0; from < found.many; from++) {
            for (int to = from + 1; to <= found.many; to++) {
                int length = windows.lengthOf(from, to);
                if (length >= 0 && length <= MOST_NUMBERS && live.agrees(row, length)) {
                    tally[length]++;
                    all++;
                }
            }
        }
        return all;
    }

    // ---- rows by draws ----

    public int drawn(int seed, int many, int below, int what) {
        if (seed < 0 || seed > 9999 || many < 1 || many > MOST_NUMBERS) {
            return NONE;
        }
        if (below < 1 || below > 100 || what < 0 || what > 2) {
            return NONE;
        }
        draw(seed, many, below);
        if (what == 2) {
            fillWindows(draws);
            return windows.strandsWithin(0, many);
        }
        chains.load(draws, law);
        chains.measure(0, many);
        return what == 0 ? chains.longest : chains.countWays();
    }

    private void draw(int seed, int many, int below) {
        draws.kind = KIND_STRICT;
        draws.many = 0;
        long g = seed;
        for (int i = 0; i < many; i++) {
            g = (g * 1103515245L + 12345L) & 2147483647L;
            draws.add(below < 1 ? 0 : (int) (g / 65536L) % below);
        }
    }

    /** The signs that were fed, and the token that is read of them. */
    private static final class Tape {
        final char[] signs = new char[MOST_SIGNS];
        final long[] keywords = new long[KEYWORD_COUNT];
        int length;
        int next;
        int type;
        int place;
        int number;
        int code;
        long word;

        Tape() {
            int known = 0;
            long packed = 0;
            for (int i = 0; i < KEYWORDS.length(); i++) {
                char sign = KEYWORDS.charAt(i);
                if (sign != ' ') {
                    packed = withLetter(packed, sign);
                } else if (known < keywords.length) {
                    keywords[known] = packed;
                    known++;
                    packed = 0;
                }
            }
        }

        void put(long eight) {
            for (int shift = 56; shift >= 0; shift -= 8) {
                int sign = (int) (eight >>> shift) & 255;
                boolean known = sign == 10 || sign >= 32 && sign <= 126;
                if (known && length >= 0 && length < signs.length) {
                    signs[length] = (char) sign;
                    length++;
                }
            }
        }

        void wipe() {
            length = 0;
            next = 0;
        }

        void advance() {
            while (next < length && (signs[next] == ' ' || signs[next] == 10)) {
                next++;
            }
            place = next;
            number = 0;
            code = 0;
            word = 0;
            if (next >= length) {
                type = END;
            } else if (isLetter(signs[next])) {
                takeWord();
            } else if (isDigit(signs[next])) {
                takeNumber();
            } else {
                takeSign();
            }
        }

        boolean isName() {
            return type == WORD && (code < ROW || code > OR);
        }

        private void takeWord() {
            while (next < length && isLetter(signs[next])) {
                word = withLetter(word, signs[next]);
                next++;
            }
            type = next - place <= MOST_LETTERS ? WORD : ALIEN;
            for (int i = 0; i < keywords.length && type == WORD; i++) {
                if (keywords[i] == word) {
                    code = ROW + i;
                }
            }
        }

        private void takeNumber() {
            while (next < length && isDigit(signs[next])) {
                number = number * 10 + (signs[next] - '0');
                next++;
            }
            type = next - place <= MOST_DIGITS ? NUMBER : ALIEN;
        }

        private void takeSign() {
            if (next >= length) {
                return;
            }
            char sign = signs[next];
            next++;
            if (SIGNS.indexOf(sign) >= 0) {
                type = SIGN;
                code = sign;
            } else {
                type = ALIEN;
            }
        }

        private static boolean isLetter(char sign) {
            return sign >= 'a' && sign <= 'z';
        }

        private static boolean isDigit(char sign) {
            return sign >= '0' && sign <= '9';
        }

        // Five bits a letter: eight letters are one long, and no two words are the same.
        private static long withLetter(long packed, char letter) {
            return packed * 32 + (letter - 'a' + 1);
        }
    }

    /** Reads a tape as an index or as a work, into drafts of its own. */
    private static final class Reader {
        final Store store = new Store();
        final Law law = new Law();
        final Deeds work = new Deeds(MOST_LINES);
        private final int[] pending = new int[LAW_STACK];
        private int pendingCount;
        private int depth;
        private boolean partDue;
        private boolean lawTold;
        private int fault;
        private int found;

        int readIndex(Tape tape) {
            store.clear();
            law.bePlain();
            lawTold = false;
            fault = 0;
            tape.next = 0;
            for (int i = 0; i <= MOST_SIGNS; i++) {
                tape.advance();
                if (tape.type == END) {
                    return 0;
                }
                if (!readStatement(tape)) {
                    return fault;
                }
            }
            return fault;
        }

        int readWork(Tape tape, Store told) {
            work.size = 0;
            fault = 0;
            tape.next = 0;
            for (int i = 0; i <= MOST_SIGNS; i++) {
                tape.advance();
                if (tape.type == END) {
                    return 0;
                }
                if (!readLine(tape, told)) {
                    return fault;
                }
            }
            return fault;
        }

        private boolean wrong(Tape tape, int kind) {
            fault = kind + 16 * tape.place;
            return false;
        }

        private boolean readStatement(Tape tape) {
            switch (tape.code) {
                case ROW: return readRow(tape);
                case BRAID: return readBraid(tape);
                case WEIGHS: return readLaw(tape);
                default: return wrong(tape, CANT_STAND);
            }
        }

        private boolean readNewName(Tape tape) {
            tape.advance();
            if (!tape.isName()) {
                return wrong(tape, CANT_STAND);
            }
            if (store.rowNamed(tape.word) != NONE || store.braidNamed(tape.word) != NONE) {
                return wrong(tape, TOLD_ALREADY);
            }
            return true;
        }

        private boolean readRow(Tape tape) {
            if (store.rowCount >= MOST_ROWS) {
                return wrong(tape, TOO_MANY);
            }
            if (!readNewName(tape)) {
                return false;
            }
            Row row = store.rows[store.rowCount];
            row.name = tape.word;
            row.many = 0;
            tape.advance();
            if (tape.code < STRICT || tape.code > SINK) {
                return wrong(tape, CANT_STAND);
            }
            row.kind = tape.code - STRICT;
            for (int i = 0; i <= MOST_NUMBERS; i++) {
                tape.advance();
                if (tape.code == ';' && row.many > 0) {
                    store.rowCount++;
                    return true;
                }
                if (tape.type != NUMBER) {
                    return wrong(tape, CANT_STAND);
                }
                if (tape.number > MOST_NUMBER) {
                    return wrong(tape, NOT_AS_TOLD);
                }
                if (!row.add(tape.number)) {
                    return wrong(tape, TOO_MANY);
                }
            }
            return false;
        }

        private boolean readBraid(Tape tape) {
            if (store.braidCount >= MOST_TOLD_BRAIDS) {
                return wrong(tape, TOO_MANY);
            }
            if (!readNewName(tape)) {
                return false;
            }
            Braid braid = store.braids[store.braidCount];
            braid.name = tape.word;
            braid.made = store.braidCount;
            braid.strands = 0;
            for (int i = 0; i <= MOST_STRANDS; i++) {
                tape.advance();
                if (tape.code == ';' && braid.strands > 0) {
                    store.braidCount++;
                    return braid.isWhole() || wrong(tape, TOO_MANY);
                }
                if (tape.type != NUMBER) {
                    return wrong(tape, CANT_STAND);
                }
                if (braid.strandAt(tape.number) != NONE) {
                    return wrong(tape, TOLD_ALREADY);
                }
                if (tape.number >= MOST_STRANDS) {
                    return wrong(tape, NOT_AS_TOLD);
                }
                if (!braid.addStrand(tape.number)) {
                    return wrong(tape, TOO_MANY);
                }
            }
            return false;
        }

        private boolean readLine(Tape tape, Store told) {
            int verb = tape.code;
            if (verb < APPEND || verb > KEEP) {
                return wrong(tape, CANT_STAND);
            }
            if (work.size >= MOST_LINES) {
                return wrong(tape, TOO_MANY);
            }
            if (!readToldName(tape, told, verb < CROSS)) {
                return false;
            }
            int first = found;
            found = 0;
            if (verb == APPEND && !readNumber(tape, MOST_NUMBER)) {
                return false;
            }
            if (verb == CROSS && !readNumber(tape, MOST_AT)) {
                return false;
            }
            if (verb == KEEP && !readToldName(tape, told, false)) {
                return false;
            }
            tape.advance();
            if (tape.code != ';') {
                return wrong(tape, CANT_STAND);
            }
            work.add(verb, first, found);
            return true;
        }

        private boolean readToldName(Tape tape, Store told, boolean ofRow) {
            tape.advance();
            if (!tape.isName()) {
                return wrong(tape, CANT_STAND);
            }
            found = ofRow ? told.rowNamed(tape.word) : told.braidNamed(tape.word);
            return found != NONE || wrong(tape, NOT_TOLD);
        }

        private boolean readNumber(Tape tape, int most) {
            tape.advance();
            if (tape.type != NUMBER) {
                return wrong(tape, CANT_STAND);
            }
            found = tape.number;
            return found <= most || wrong(tape, NOT_AS_TOLD);
        }

        // The law is turned into code with the operands ahead of their operator;
        // operators wait in pending till what binds them less comes.
        private boolean readLaw(Tape tape) {
            if (lawTold) {
                return wrong(tape, TOLD_ALREADY);
            }
            lawTold = true;
            law.length = 0;
            pendingCount = 0;
            depth = 0;
            partDue = true;
            for (int i = 0; i <= MOST_SIGNS; i++) {
                tape.advance();
                if (partDue) {
                    if (!takePart(tape)) {
                        return false;
                    }
                } else if (tape.code == ';') {
                    release(1);
                    return pendingCount == 0 || wrong(tape, CANT_STAND);
                } else if (tape.code == ')') {
                    if (!closeBracket(tape)) {
                        return false;
                    }
                } else if (!takeOperator(tape)) {
                    return false;
                }
            }
            return wrong(tape, CANT_STAND);
        }

        private boolean takePart(Tape tape) {
            boolean opens = tape.code == NOT || tape.code == '(';
            boolean stands = tape.type == NUMBER
                    || tape.code >= FACT_NUMBER && tape.code <= FACT_KIND;
            if (!opens && !stands) {
                return wrong(tape, CANT_STAND);
            }
            if (depth >= MOST_DEPTH) {
                return wrong(tape, TOO_MANY);
            }
            if (opens) {
                hold(tape.code);
                depth++;
                return true;
            }
            law.add(tape.type == NUMBER ? tape.number : -tape.code);
            releaseNots();
            partDue = false;
            return true;
        }

        private boolean takeOperator(Tape tape) {
            int rank = rankOf(tape.code);
            if (rank == 0) {
                return wrong(tape, CANT_STAND);
            }
            boolean compares = rank == 2;
            release(compares ? 3 : rank);
            // A test compares once: a second < or = of it can't stand.
            if (compares && pendingCount > 0 && rankOf(pending[pendingCount - 1]) == 2) {
                return wrong(tape, CANT_STAND);
            }
            hold(tape.code);
            partDue = true;
            return true;
        }

        private boolean closeBracket(Tape tape) {
            release(1);
            if (pendingCount == 0) {
                return wrong(tape, CANT_STAND);
            }
            pendingCount--;
            depth--;
            releaseNots();
            return true;
        }

        private void hold(int code) {
            if (pendingCount >= 0 && pendingCount < pending.length) {
                pending[pendingCount] = code;
                pendingCount++;
            }
        }

        private void release(int rank) {
            while (pendingCount > 0 && rankOf(pending[pendingCount - 1]) >= rank) {
                pendingCount--;
                law.add(-pending[pendingCount]);
            }
        }

        private void releaseNots() {
            while (pendingCount > 0 && pending[pendingCount - 1] == NOT) {
                pendingCount--;
                depth--;
                law.add(-NOT);
            }
        }

        private static int rankOf(int code) {
            switch (code) {
                case AND: return 1;
                case OR: return 1;
                case '<': return 2;
                case '=': return 2;
                case '+': return 3;
                case '-': return 3;
                case '*': return 4;
                default: return 0;
            }
        }
    }

    /** What a number weighs, as code: numbers as they are, all else by its code below 0. */
    private static final class Law {
        final int[] codes = new int[MOST_SIGNS];
        private final int[] stack = new int[LAW_STACK];
        int length;

        Law() {
            codes[0] = -FACT_NUMBER;
            length = 1;
        }

        void bePlain() {
            length = 0;
            add(-FACT_NUMBER);
        }

        void add(int code) {
            if (length >= 0 && length < codes.length) {
                codes[length] = code;
                length++;
            }
        }

        void copyFrom(Law other) {
            System.arraycopy(other.codes, 0, codes, 0, codes.length);
            length = other.length;
        }

        int weigh(int number, int place, int many, int kind) {
            int top = 0;
            for (int i = 0; i < length && i < codes.length; i++) {
                int code = -codes[i];
                if (code == NOT) {
                    if (top >= 1) {
                        stack[top - 1] = stack[top - 1] == 0 ? 1 : 0;
                    }
                } else if (code > 0 && code < FACT_NUMBER) {
                    if (top >= 2) {
                        top--;
                        stack[top - 1] = result(code, stack[top - 1], stack[top]);
                    }
                } else if (top < stack.length) {
                    stack[top] = operand(code, number, place, many, kind);
                    top++;
                }
            }
            return top > 0 ? stack[top - 1] : 0;
        }

        private static int operand(int code, int number, int place, int many, int kind) {
            switch (code) {
                case FACT_NUMBER: return number;
                case FACT_PLACE: return place;
                case FACT_MANY: return many;
                case FACT_KIND: return kind;
                default: return -code;
            }
        }

        private static int result(int code, int left, int right) {
            switch (code) {
                case AND: return left != 0 && right != 0 ? 1 : 0;
                case OR: return left != 0 || right != 0 ? 1 : 0;
                case '<': return left < right ? 1 : 0;
                case '=': return left == right ? 1 : 0;
                case '+': return left + right;
                case '-': return left - right;
                default: return left * right;
            }
        }
    }

    /** What is done, to which, with what: the lines of a work, or changes by hand. */
    private static final class Deeds {
        private final int[] verbs;
        private final int[] whiches;
        private final int[] values;
        int size;

        Deeds(int most) {
            int room = Math.max(most, 1);
            verbs = new int[room];
            whiches = new int[room];
            values = new int[room];
        }

        boolean has(int i) {
            return i >= 0 && i < size && i < verbs.length;
        }

        int verbOf(int i) {
            return has(i) ? verbs[i] : 0;
        }

        int whichOf(int i) {
            return has(i) ? whiches[i] : NONE;
        }

        int valueOf(int i) {
            return has(i) ? values[i] : NONE;
        }

        /** The oldest one is gone if there is no room. */
        void add(int verb, int which, int value) {
            if (size >= verbs.length) {
                forgetOldest();
            }
            if (size >= 0 && size < verbs.length) {
                verbs[size] = verb;
                whiches[size] = which;
                values[size] = value;
                size++;
            }
        }

        private void forgetOldest() {
            for (int i = 1; i < verbs.length; i++) {
                verbs[i - 1] = verbs[i];
                whiches[i - 1] = whiches[i];
                values[i - 1] = values[i];
            }
            size = verbs.length - 1;
        }

        void copyFrom(Deeds other) {
            size = 0;
            for (int i = 0; i < other.size; i++) {
                add(other.verbOf(i), other.whichOf(i), other.valueOf(i));
            }
        }
    }

    private static final class Row {
        final int[] numbers = new int[MOST_NUMBERS];
        long name;
        int kind;
        int many;

        boolean hasPlace(int place) {
            return place >= 0 && place < many && place < numbers.length;
        }

        boolean add(int number) {
            if (many < 0 || many >= numbers.length) {
                return false;
            }
            numbers[many] = number;
            many++;
            return true;
        }

        void flip() {
            for (int i = 0; i < many / 2; i++) {
                int number = numbers[i];
                numbers[i] = numbers[many - 1 - i];
                numbers[many - 1 - i] = number;
            }
        }

        void copyFrom(Row other) {
            System.arraycopy(other.numbers, 0, numbers, 0, numbers.length);
            name = other.name;
            kind = other.kind;
            many = other.many;
        }
    }

    private static final class Braid {
        final int[] ends = new int[MOST_STRANDS];
        long name;
        int strands;
        int made;

        boolean hasStrand(int strand) {
            return strand >= 0 && strand < strands && strand < ends.length;
        }

        boolean addStrand(int end) {
            if (strands < 0 || strands >= ends.length) {
                return false;
            }
            ends[strands] = end;
            strands++;
            return true;
        }

        int strandAt(int end) {
            for (int strand = 0; strand < strands; strand++) {
                if (ends[strand] == end) {
                    return strand;
                }
            }
            return NONE;
        }

        boolean isWhole() {
            for (int strand = 0; strand < strands; strand++) {
                if (ends[strand] >= strands) {
                    return false;
                }
            }
            return true;
        }

        boolean crossAt(int at) {
            if (strandAt(at) > strandAt(at + 1)) {
                return false;
            }
            return exchangeAt(at);
        }

        boolean exchangeAt(int at) {
            int one = strandAt(at);
            int two = strandAt(at + 1);
            if (one == NONE || two == NONE) {
                return false;
            }
            ends[one] = at + 1;
            ends[two] = at;
            return true;
        }

        int crossings() {
            int pairs = 0;
            for (int strand = 1; strand < strands; strand++) {
                for (int ahead = 0; ahead < strand; ahead++) {
                    if (ends[strand] < ends[ahead]) {
                        pairs++;
                    }
                }
            }
            return pairs;
        }

        int countOf(int i, int k) {
            int found = 0;
            for (int strand = Math.max(i, 0); strand < strands; strand++) {
                if (ends[strand] < k) {
                    found++;
                }
            }
            return found;
        }

        boolean isSame(Braid other) {
            for (int strand = 0; strand < strands; strand++) {
                if (ends[strand] != other.ends[strand]) {
                    return false;
                }
            }
            return strands == other.strands;
        }

        void copyFrom(Braid other) {
            System.arraycopy(other.ends, 0, ends, 0, ends.length);
            name = other.name;
            strands = other.strands;
            made = other.made;
        }
    }

    /** Rows, braids and what is seen: what a mark holds. */
    private static final class Store {
        final Row[] rows = new Row[MOST_ROWS];
        final Braid[] braids = new Braid[MOST_BRAIDS];
        private final int[] seenRows = new int[MOST_SEEN];
        private final int[] seenLengths = new int[MOST_SEEN];
        private final boolean[] seenMore = new boolean[MOST_SEEN];
        int rowCount;
        int braidCount;
        int seenCount;

        Store() {
            for (int i = 0; i < MOST_ROWS; i++) {
                rows[i] = new Row();
            }
            for (int i = 0; i < MOST_BRAIDS; i++) {
                braids[i] = new Braid();
            }
        }

        void clear() {
            rowCount = 0;
            braidCount = 0;
            seenCount = 0;
        }

        void copyFrom(Store other) {
            for (int i = 0; i < other.rowCount; i++) {
                rows[i].copyFrom(other.rows[i]);
            }
            for (int i = 0; i < other.braidCount; i++) {
                braids[i].copyFrom(other.braids[i]);
            }
            for (int i = 0; i < other.seenCount; i++) {
                seenRows[i] = other.seenRows[i];
                seenLengths[i] = other.seenLengths[i];
                seenMore[i] = other.seenMore[i];
            }
            rowCount = other.rowCount;
            braidCount = other.braidCount;
            seenCount = other.seenCount;
        }

        Row rowAt(int number) {
            return number >= 0 && number < rowCount ? rows[number] : null;
        }

        Braid braidAt(int number) {
            return number >= 0 && number < braidCount ? braids[number] : null;
        }

        int rowNamed(long name) {
            for (int i = 0; i < rowCount; i++) {
                if (rows[i].name == name) {
                    return i;
                }
            }
            return NONE;
        }

        int braidNamed(long name) {
            for (int i = 0; i < braidCount; i++) {
                if (braids[i].name == name) {
                    return i;
                }
            }
            return NONE;
        }

        int allNumbers() {
            int all = 0;
            for (int i = 0; i < rowCount; i++) {
                all += rows[i].many;
            }
            return all;
        }

        int grow(int number, int item) {
            Row row = rowAt(number);
            if (row == null || item < 0 || item > MOST_NUMBER || !row.add(item)) {
                return NONE;
            }
            return row.many;
        }

        int shrink(int number) {
            Row row = rowAt(number);
            if (row == null || row.many < 2) {
                return NONE;
            }
            row.many--;
            return row.numbers[row.many];
        }

        boolean reverse(int number) {
            Row row = rowAt(number);
            if (row == null) {
                return false;
            }
            row.flip();
            return true;
        }

        boolean crossOver(int number, int at) {
            Braid braid = braidAt(number);
            return braid != null && at >= 0 && at < MOST_STRANDS && braid.crossAt(at);
        }

        void crossBack(int number, int at) {
            Braid braid = braidAt(number);
            if (braid != null) {
                braid.exchangeAt(at);
            }
        }

        int combine(int number, int other, Composer composer) {
            Braid one = braidAt(number);
            Braid two = braidAt(other);
            if (!areAlike(one, two) || braidCount >= MOST_BRAIDS) {
                return NONE;
            }
            Braid kept = braids[braidCount];
            composer.join(one, two, kept);
            braidCount++;
            return braidCount - 1;
        }

        void dropBraid() {
            if (braidCount > 0) {
                braidCount--;
            }
        }

        boolean addSeen(int row, int length, boolean more) {
            if (seenCount >= MOST_SEEN) {
                return false;
            }
            seenRows[seenCount] = row;
            seenLengths[seenCount] = length;
            seenMore[seenCount] = more;
            seenCount++;
            return true;
        }

        boolean agrees(int row, int length) {
            for (int i = 0; i < seenCount; i++) {
                if (seenRows[i] == row && seenMore[i] != (length >= seenLengths[i])) {
                    return false;
                }
            }
            return true;
        }
    }

    /** A row's weights, and the longest chains of one window of it. */
    private static final class Chains {
        final int[] weights = new int[MOST_NUMBERS];
        private final int[] behind = new int[MOST_NUMBERS];
        private final int[] upTo = new int[MOST_NUMBERS];
        private final int[] onWays = new int[MOST_NUMBERS];
        int many;
        int longest;
        private int kind;
        private int start;
        private int end;

        void load(Row row, Law law) {
            many = Math.min(row.many, weights.length);
            kind = row.kind;
            for (int place = 0; place < many; place++) {
                weights[place] = law.weigh(row.numbers[place], place, row.many, kind);
            }
        }

        boolean mayFollow(int later, int earlier) {
            switch (kind) {
                case KIND_STRICT: return later > earlier;
                case KIND_WEAK: return later >= earlier;
                case KIND_DOWN: return later < earlier;
                default: return later <= earlier;
            }
        }

        private boolean follows(int later, int earlier) {
            return mayFollow(weights[later], weights[earlier]);
        }

        /** Tells of each place how long the longest chain of the window is that ends there. */
        private void measureUp() {
            for (int place = start; place < end; place++) {
                int most = 0;
                for (int earlier = start; earlier < place; earlier++) {
                    if (upTo[earlier] > most && follows(place, earlier)) {
                        most = upTo[earlier];
                    }
                }
                upTo[place] = most + 1;
            }
        }

        /** Tells of each place how long the longest chain is that begins there. */
        private void measureBehind() {
            for (int place = end - 1; place >= start; place--) {
                int most = 0;
                for (int later = place + 1; later < end; later++) {
                    if (behind[later] > most && follows(later, place)) {
                        most = behind[later];
                    }
                }
                behind[place] = most + 1;
            }
        }

        void measure(int from, int to) {
            start = Math.max(from, 0);
            end = Math.min(to, many);
            measureUp();
            measureBehind();
            longest = 0;
            for (int place = start; place < end; place++) {
                longest = Math.max(longest, upTo[place]);
            }
        }

        /** Puts the length of each window from there into a row of a table, by its end. */
        void measureFrom(int from, int[] lengths) {
            start = Math.max(from, 0);
            end = many;
            measureUp();
            int most = 0;
            for (int to = start; to <= end && to < lengths.length; to++) {
                lengths[to] = most;
                if (to < end) {
                    most = Math.max(most, upTo[to]);
                }
            }
        }

        int placeOfFirst(int i) {
            if (i < 0 || i >= longest) {
                return NONE;
            }
            int last = NONE;
            int due = longest;
            for (int place = start; place < end; place++) {
                if (behind[place] == due && (last == NONE || follows(place, last))) {
                    if (longest - due == i) {
                        return place;
                    }
                    last = place;
                    due--;
                }
            }
            return NONE;
        }

        int countWays() {
            if (longest == 0) {
                return 1;
            }
            long all = 0;
            for (int place = end - 1; place >= start; place--) {
                onWays[place] = waysOn(place);
                if (behind[place] == longest) {
                    all += onWays[place];
                }
            }
            return (int) Math.min(all, MOST_WAYS);
        }

        private int waysOn(int place) {
            if (behind[place] == 1) {
                return 1;
            }
            long all = 0;
            for (int later = place + 1; later < end; later++) {
                if (behind[later] == behind[place] - 1 && follows(later, place)) {
                    all += onWays[later];
                }
            }
            return (int) Math.min(all, MOST_WAYS);
        }

        private boolean isOnLongest(int place) {
            return upTo[place] + behind[place] - 1 == longest;
        }

        int mayBits() {
            int bits = 0;
            for (int place = start; place < end; place++) {
                if (isOnLongest(place)) {
                    bits |= 1 << place;
                }
            }
            return bits;
        }

        int mustBits() {
            int bits = 0;
            for (int place = start; place < end; place++) {
                if (isOnLongest(place) && isAloneAtStep(place)) {
                    bits |= 1 << place;
                }
            }
            return bits;
        }

        // Each longest chain has one place at each step, so all of them go through
        // a place just if no other place on one of them is at the same step.
        private boolean isAloneAtStep(int place) {
            for (int other = start; other < end; other++) {
                if (other != place && upTo[other] == upTo[place] && isOnLongest(other)) {
                    return false;
                }
            }
            return true;
        }
    }

    /** The lengths of all windows of a row, and the strands by which they are told. */
    private static final class Windows {
        private final int[][] lengths = new int[MOST_NUMBERS + 1][MOST_NUMBERS + 1];
        private final int[] shared = new int[MOST_NUMBERS + 1];
        private int many;

        void fillChains(Chains chains) {
            many = chains.many;
            for (int from = 0; from <= many && from < lengths.length; from++) {
                chains.measureFrom(from, lengths[from]);
            }
        }

        void fillCommon(Chains one, Chains two) {
            many = two.many;
            for (int from = 0; from <= many && from < lengths.length; from++) {
                fillCommonFrom(one, two, from);
            }
        }

        // shared tells of each start of the first row what it has in common with
        // the window so far; the window grows by one place at a time.
        private void fillCommonFrom(Chains one, Chains two, int from) {
            int[] into = lengths[from];
            for (int i = 0; i < shared.length; i++) {
                shared[i] = 0;
            }
            into[from] = 0;
            for (int place = from; place < many; place++) {
                int diagonal = 0;
                for (int i = 1; i <= one.many && i < shared.length; i++) {
                    int above = shared[i];
                    if (one.weights[i - 1] == two.weights[place]) {
                        shared[i] = diagonal + 1;
                    } else {
                        shared[i] = Math.max(above, shared[i - 1]);
                    }
                    diagonal = above;
                }
                into[place + 1] = shared[one.many];
            }
        }

        int lengthOf(int from, int to) {
            if (from < 0 || from > to || to > many || to >= lengths.length) {
                return 0;
            }
            return lengths[from][to];
        }

        /** How many places a window's length leaves; 0 for a window that is none. */
        private int left(int from, int to) {
            return from > to ? 0 : to - from - lengthOf(from, to);
        }

        int strandFrom(int place) {
            for (int end = place; end < many; end++) {
                int unit = left(place, end + 1) - left(place + 1, end + 1)
                        - left(place, end) + left(place + 1, end);
                if (unit == 1) {
                    return end;
                }
            }
            return NONE;
        }

        int strandsWithin(int from, int to) {
            int within = 0;
            for (int place = from; place < to; place++) {
                int end = strandFrom(place);
                if (end != NONE && end < to) {
                    within++;
                }
            }
            return within;
        }

        int having(int length) {
            int found = 0;
            for (int from = 0; from <= many; from++) {
                for (int to = from; to <= many; to++) {
                    if (lengthOf(from, to) == length) {
                        found++;
                    }
                }
            }
            return found;
        }

        int bestFrom(int width) {
            int best = 0;
            for (int from = 1; from <= many - width; from++) {
                if (lengthOf(from, from + width) > lengthOf(best, best + width)) {
                    best = from;
                }
            }
            return best;
        }

        int narrowest(int length) {
            for (int width = 0; width <= many; width++) {
                for (int from = 0; from <= many - width; from++) {
                    if (lengthOf(from, from + width) >= length) {
                        return 32 * from + from + width;
                    }
                }
            }
            return NONE;
        }
    }

    /** Piles and the tableau of a window. */
    private static final class Tableau {
        private final int[][] cells = new int[MOST_NUMBERS][MOST_NUMBERS];
        private final int[] sizes = new int[MOST_NUMBERS];
        private final int[] tops = new int[MOST_NUMBERS];

        /** On which pile a place goes, or with place NONE how many piles there are. */
        int pile(Chains chains, int from, int to, int asked) {
            int many = 0;
            for (int place = from; place < to; place++) {
                int weight = chains.weights[place];
                int goes = 0;
                while (goes < many && chains.mayFollow(weight, tops[goes])) {
                    goes++;
                }
                if (place == asked) {
                    return goes;
                }
                if (goes < tops.length) {
                    tops[goes] = weight;
                    many = Math.max(many, goes + 1);
                }
            }
            return many;
        }

        void fill(Chains chains, int from, int to) {
            for (int i = 0; i < sizes.length; i++) {
                sizes[i] = 0;
            }
            for (int place = from; place < to; place++) {
                insert(chains, chains.weights[place]);
            }
        }

        int sizeOf(int i) {
            return i >= 0 && i < sizes.length ? sizes[i] : 0;
        }

        private void insert(Chains chains, int weight) {
            int moving = weight;
            for (int i = 0; i < sizes.length; i++) {
                int at = 0;
                // A row's weights follow one another, so what follows its last one
                // follows them all.
                while (at < sizes[i] && chains.mayFollow(moving, cells[i][at])) {
                    at++;
                }
                if (at >= cells[i].length) {
                    return;
                }
                int out = cells[i][at];
                cells[i][at] = moving;
                if (at == sizes[i]) {
                    sizes[i]++;
                    return;
                }
                moving = out;
            }
        }
    }

    /** Composes braids by their tables of counts. */
    private static final class Composer {
        final Braid result = new Braid();
        final Braid power = new Braid();
        private final int[][] firsts = new int[MOST_STRANDS + 1][MOST_STRANDS + 1];
        private final int[][] seconds = new int[MOST_STRANDS + 1][MOST_STRANDS + 1];
        private final int[][] leasts = new int[MOST_STRANDS + 1][MOST_STRANDS + 1];
        private final int[] order = new int[MOST_STRANDS];

        private static void tabulate(Braid braid, int[][] table) {
            int many = braid.strands;
            for (int k = 0; k <= many; k++) {
                table[many][k] = 0;
            }
            for (int i = many - 1; i >= 0; i--) {
                for (int k = 0; k <= many; k++) {
                    table[i][k] = table[i + 1][k] + (braid.ends[i] < k ? 1 : 0);
                }
            }
        }

        /** Both tables are made before into is written, so into may be one of the two. */
        void join(Braid one, Braid two, Braid into) {
            tabulate(one, firsts);
            tabulate(two, seconds);
            int many = one.strands;
            for (int i = 0; i <= many; i++) {
                for (int k = 0; k <= many; k++) {
                    leasts[i][k] = leastBetween(i, k, many);
                }
            }
            into.strands = many;
            for (int strand = 0; strand < many; strand++) {
                into.ends[strand] = endOf(strand, many);
            }
        }

        private int leastBetween(int i, int k, int many) {
            int least = firsts[i][0] + seconds[0][k];
            for (int j = 1; j <= many; j++) {
                least = Math.min(least, firsts[i][j] + seconds[j][k]);
            }
            return least;
        }

        private int endOf(int strand, int many) {
            for (int end = 0; end < many; end++) {
                int unit = leasts[strand][end + 1] - leasts[strand + 1][end + 1]
                        - leasts[strand][end] + leasts[strand + 1][end];
                if (unit == 1) {
                    return end;
                }
            }
            return 0;
        }

        /** Raises to that power; answers the first power that is the next one too, or often. */
        int raise(Braid braid, int often) {
            power.copyFrom(braid);
            for (int times = 1; times < often; times++) {
                join(power, braid, result);
                if (result.isSame(power)) {
                    return times;
                }
                power.copyFrom(result);
            }
            return often;
        }

        boolean isUnder(Braid one, Braid two) {
            tabulate(one, firsts);
            tabulate(two, seconds);
            for (int i = 0; i <= one.strands; i++) {
                for (int k = 0; k <= one.strands; k++) {
                    if (firsts[i][k] > seconds[i][k]) {
                        return false;
                    }
                }
            }
            return true;
        }

        int knitStep(Braid braid, int i) {
            for (int at = 0; at < braid.strands; at++) {
                order[at] = at;
            }
            for (int step = 0; step < MOST_CROSSINGS; step++) {
                int at = leastCrossing(braid);
                if (at == NONE || step == i) {
                    return at;
                }
                int strand = order[at];
                order[at] = order[at + 1];
                order[at + 1] = strand;
            }
            return NONE;
        }

        private int leastCrossing(Braid braid) {
            for (int at = 0; at + 1 < braid.strands; at++) {
                if (braid.ends[order[at]] > braid.ends[order[at + 1]]) {
                    return at;
                }
            }
            return NONE;
        }
    }
}
