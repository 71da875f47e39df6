import java.util.NoSuchElementException;

/** What the tests share: feeding texts, counting wrong answers, ending with an exit code. */
final class Check {
    private final String name;
    private int wrong;
    private int right;

    Check(String name) {
        this.name = name;
    }

    void due(String call, long got, long want) {
        if (got == want) {
            right++;
        } else {
            wrong++;
            System.out.println(call + " answered " + got + ", due is " + want);
        }
    }

    void due(String call, boolean got, boolean want) {
        due(call, got ? 1 : 0, want ? 1 : 0);
    }

    int wrongOnes() {
        return wrong;
    }

    void end() {
        System.out.println(name + ": " + right + " answers as due, " + wrong + " not");
        if (wrong != 0) {
            System.exit(1);
        }
    }

    /** Eight signs from there on as a long, the first one highest, 0 behind the end. */
    static long pack(String text, int from) {
        long packed = 0;
        for (int i = from; i < from + 8; i++) {
            packed = packed << 8 | (i < text.length() ? text.charAt(i) & 255 : 0);
        }
        return packed;
    }

    static int feed(ChainIndex x, String text) {
        int length = x.count(7);
        for (int i = 0; i < text.length(); i += 24) {
            length = x.feed(pack(text, i), pack(text, i + 8), pack(text, i + 16));
        }
        return length;
    }

    static int index(ChainIndex x, String text) {
        feed(x, text);
        return x.index();
    }

    static int work(ChainIndex x, String text) {
        feed(x, text);
        return x.work();
    }

    static ChainIndex told(String text) {
        ChainIndex x = new ChainIndex();
        int fault = index(x, text);
        if (fault != 0) {
            throw new IllegalStateException("fault " + fault + " in " + text);
        }
        return x;
    }

    /** The weight, or Long.MIN_VALUE if the call throws what the document names. */
    static long weight(ChainIndex x, int row, int place) {
        try {
            return x.weight(row, place);
        } catch (NoSuchElementException e) {
            return Long.MIN_VALUE;
        }
    }
}
