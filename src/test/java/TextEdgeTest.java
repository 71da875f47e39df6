import java.util.List;

/**
 * The document's sentences on the TAPE, TOKENS, INDEX, WORK, NAMES, E and FAULTS that name a
 * bound: just inside it and just beyond. Each test bears the sentence it is of.
 */
public final class TextEdgeTest {
    private static final Check CHECK = new Check("TextEdgeTest");
    private static final List<String> VERBS = List.of("append", "cut", "turn", "cross", "keep");
    private static final String TOLD = "row r strict 3 1 4; row s weak 2; braid x 1 0 2; braid y 0;";
    private static final String ROWS = "row a weak 1;row b weak 1;row c weak 1;row d weak 1;";
    private static final String BRAIDS = "braid e 0;braid f 0;braid g 0;braid h 0;";

    /** Products that wrap: 2 to the 31st is the least int, 2 to the 32nd is 0. */
    private static final String LEAST = "8192*8192*32";
    private static final String ALL_ROUND = "8192*8192*64";

    private static void due(String call, long got, long want) {
        CHECK.due(call, got, want);
    }

    private static int faultOf(int kind, int place) {
        return kind == 0 ? 0 : kind + 16 * place;
    }

    private static void fault(String text, int kind, int place) {
        due("index of " + text, Check.index(new ChainIndex(), text), faultOf(kind, place));
    }

    private static void right(String text) {
        fault(text, 0, 0);
    }

    private static void workFault(String text, int kind, int place) {
        due("work of " + text, Check.work(Check.told(TOLD), text), faultOf(kind, place));
    }

    private static long weighed(String law, int number) {
        return Check.weight(Check.told("weighs " + law + ";row q down " + number + ";"), 0, 0);
    }

    private static String times(String text, int often) {
        return text.repeat(often);
    }

    private static long eight(int sign) {
        long packed = 0;
        for (int i = 0; i < 8; i++) packed = packed << 8 | sign & 255;
        return packed;
    }

    // ---- "The TAPE has at most 1,000 signs, 10 and 32 .. 126" ----

    private static void theTapeHasAtMostAThousandSigns() {
        ChainIndex x = new ChainIndex();
        due("none at first", x.count(7), 0);
        due("one", Check.feed(x, " "), 1);
        due("999", Check.feed(x, times(" ", 998)), 999);
        due("1000", Check.feed(x, " "), 1000);
        due("no 1001st", Check.feed(x, "x"), 1000);
        due("no 24 more", Check.feed(x, times("x", 24)), 1000);
        due("count tells so too", x.count(7), 1000);
        due("it has blanks alone", x.index(), 0);
        due("empty then", x.count(7), 0);
        due("it can be filled anew", Check.feed(x, times("y", 24)), 24);
    }

    private static void whatIsBeyondAThousandIsLeftOut() {
        ChainIndex x = new ChainIndex();
        due("987 blanks", Check.feed(x, times(" ", 987)), 987);
        due("thirteen signs fit, eleven don't", Check.feed(x, "row a weak 1;row b weak !"), 1000);
        due("all thirteen are read", x.index(), 0);
        due("one row", x.count(0), 1);
        ChainIndex y = new ChainIndex();
        Check.feed(y, times("\n", 988));
        due("the ; is the 1001st", Check.feed(y, "row a weak 1;"), 1000);
        due("the end is at 1000", y.index(), 1 + 16 * 1000);
        due("no row", y.count(0), 0);
        ChainIndex z = new ChainIndex();
        Check.feed(z, times(" ", 999));
        due("of three longs the first sign alone", z.feed(eight('!'), eight('?'), eight('x')), 1000);
        due("it is the last one", z.index(), 1 + 16 * 999);
        ChainIndex w = new ChainIndex();
        Check.feed(w, times(" ", 999));
        due("what is left out takes no room", w.feed(eight(9), eight(200), Check.pack("\0\0\0!", 0)), 1000);
        due("the ! is on it", w.index(), 1 + 16 * 999);
    }

    private static void othersThanTenAndThirtyTwoToHundredTwentySixAreLeftOut() {
        for (int sign = 0; sign <= 255; sign++) {
            ChainIndex x = new ChainIndex();
            boolean known = sign == 10 || sign >= 32 && sign <= 126;
            due("sign " + sign, x.feed(eight(sign), 0, eight(sign)), known ? 16 : 0);
        }
        ChainIndex y = new ChainIndex();
        due("minus one", y.feed(-1, -1, -1), 0);
        due("the least long", y.feed(Long.MIN_VALUE, Long.MIN_VALUE, Long.MIN_VALUE), 0);
        due("the greatest long", y.feed(Long.MAX_VALUE, 0, 0), 0);
        Check.feed(y, "r\0o\u007fw\u001f \ta\u0080 w\rea\u00ffk 1\u000b2;");
        due("what is left out parts no tokens", y.index(), 0);
        due("one number", y.row(0, 1), 1);
        due("twelve", y.item(0, 0), 12);
    }

    private static void ofEachLongTheHighestByteComesFirst() {
        ChainIndex x = new ChainIndex();
        due("24 signs", x.feed(Check.pack("row abcd", 0), Check.pack("efgh wea", 0), Check.pack("k 10 20;", 0)), 24);
        due("read in their order", x.index(), 0);
        due("10", x.item(0, 0), 10);
        due("20", x.item(0, 1), 20);
        due("the lowest byte too", x.feed(0, 0, '!'), 1);
        due("the highest byte too", x.feed((long) '!' << 56, 0, 0), 2);
    }

    // ---- "what reads it takes it: it is empty then" ----

    private static void whatReadsTheTapeTakesIt() {
        ChainIndex x = new ChainIndex();
        due("index", Check.index(x, TOLD), 0);
        due("empty", x.count(7), 0);
        due("index with a fault", Check.index(x, "row a ?"), 1 + 16 * 6);
        due("empty", x.count(7), 0);
        due("work", Check.work(x, "cut r;"), 0);
        due("empty", x.count(7), 0);
        due("work with a fault", Check.work(x, "cut q;"), 2 + 16 * 4);
        due("empty", x.count(7), 0);
        due("places are from the new text's start", Check.work(x, "cut q;"), 2 + 16 * 4);
        due("nothing is read as a work of no lines", x.work(), 0);
        due("no lines", x.count(4), 0);
        due("the rows stay", x.count(0), 2);
        due("nothing is read as an index of nothing", x.index(), 0);
        due("no rows", x.count(0), 0);
        due("no braids", x.count(1), 0);
    }

    // ---- "TOKENS, each as long as can be, blanks (10, 32) between where one likes" ----

    private static void tokensAreAsLongAsCanBe() {
        fault("rowa weak 1;", 1, 0);
        fault("row a weakb 1;", 1, 6);
        fault("row a weak 1 ;weighs numberplace;", 1, 21);
        fault("weighs 1<=2;", 1, 9);
        fault("weighs 1 andnot 0;", 1, 9);
        fault("weighs notnot 0;", 1, 7);
        ChainIndex x = Check.told("row a weak 12 1 2;");
        due("12 is one number", x.row(0, 1), 3);
        due("12", x.item(0, 0), 12);
    }

    private static void blanksAreWhereOneLikes() {
        right("row a weak1;braid b0;weighs(number)<(place)and(many)or(kind);");
        right("\n\nrow\na\nweak\n1\n;\n\n");
        right("   row   a   weak   1   ;   ");
        right("weighs not(not(1));");
        fault(" \n x", 1, 3);
        fault("row a weak 1;\n\n \n!", 1, 17);
        right("");
        right(" ");
        right("\n");
        right(times("\n ", 500));
        workFault("cut\nr\n;cut r;append r7;\n ", 0, 0);
        workFault("\n\n", 0, 0);
        workFault("\n\n!", 1, 2);
    }

    // ---- "WORDS (letters a .. z, 8 at most)", "a longer WORD or NUMBER, too, at its first sign" ----

    private static void aWordHasEightLettersAtMost() {
        right("row abcdefgh weak 1;");
        fault("row abcdefghi weak 1;", 1, 4);
        right("row a weak 1;braid zzzzzzzz 0;");
        fault("braid zzzzzzzzz 0;", 1, 6);
        fault("rowrowrow a weak 1;", 1, 0);
        fault("row a weakweakw 1;", 1, 6);
        fault("weighs abcdefghi;", 1, 7);
        fault("weighs 1 abcdefghi;", 1, 9);
        fault(times("a", 1000), 1, 0);
        right("row abcdefgh weak 1;row abcdefgi weak 1;row abcdefg weak 1;row bcdefgh weak 1;");
        fault("row abcdefgh weak 1;row abcdefgh weak 1;", 3, 24);
        fault("row zzzzzzzz weak 1;braid zzzzzzzz 0;", 3, 26);
        workFault("cut abcdefgh;", 2, 4);
        workFault("cut abcdefghi;", 1, 4);
        workFault("cutcutcut r;", 1, 0);
        workFault("append r abcdefghi;", 1, 9);
        fault("row a` weak 1;", 1, 5);
        fault("row a{ weak 1;", 1, 5);
        fault("row Z weak 1;", 1, 4);
        right("row az weak 1;");
    }

    // ---- "NUMBERS (1 to 4 digits; a letter may stand right behind)" ----

    private static void aNumberHasOneToFourDigits() {
        right("row a weak 0 00 000 0000 0099;");
        fault("row a weak 00000;", 1, 11);
        fault("row a weak 00099;", 1, 11);
        fault("row a weak 10000;", 1, 11);
        fault("row a weak 4294967296;", 1, 11);
        fault("row a weak 4294967297 1;", 1, 11);
        fault("row a weak 18446744073709551617;", 1, 11);
        fault("braid a 00000;", 1, 8);
        right("braid a 0000;");
        fault("weighs 10000;", 1, 7);
        fault("weighs 99999;", 1, 7);
        fault("weighs 1 + 12345;", 1, 11);
        due("9999", weighed("9999", 1), 9999);
        due("0009", weighed("0009", 1), 9);
        workFault("append r 00001;", 1, 9);
        workFault("append r 0001;", 0, 0);
        workFault("cross x 00001;", 1, 8);
        fault(times("1", 1000), 1, 0);
        fault("row a weak 1/;", 1, 12);
        fault("row a weak 1:;", 1, 12);
    }

    private static void aLetterMayStandRightBehindANumber() {
        due("1and 1", weighed("1and 1", 1), 1);
        due("0or 0", weighed("0or 0", 1), 0);
        due("2*number", weighed("2*number", 21), 42);
        fault("weighs 2number;", 1, 8);
        fault("row a weak 1row b weak 1;", 1, 12);
        right("row a weak 1;row b weak 1;");
        fault("row a weak 9999z;", 4, 11);
        fault("row a weak 12345z;", 1, 11);
    }

    // ---- "the signs ( ) < = + - * ; All else .. is none." ----

    private static void allElseIsNone() {
        for (char sign = 33; sign <= 126; sign++) {
            boolean letter = sign >= 'a' && sign <= 'z';
            boolean digit = sign >= '0' && sign <= '9';
            boolean between = "<=+-*".indexOf(sign) >= 0;
            boolean ends = sign == ';';
            fault("" + sign, 1, 0);
            fault("weighs " + sign + ";", digit ? 0 : 1, sign == '(' ? 8 : 7);
            fault("weighs 1 " + sign + " 2;", between ? 0 : 1, ends ? 11 : 9);
            fault("row a weak 1 " + sign, ends ? 0 : 1, digit ? 14 : 13);
            workFault("cut r" + sign + ";", letter ? 2 : 1, letter ? 4 : ends ? 6 : 5);
        }
    }

    // ---- "INDEX: any number of row .. ; braid .. ; weighs .. ;" ----

    private static void anIndexIsAnyNumberOfThem() {
        right("");
        right(ROWS + BRAIDS + "weighs number;");
        right("weighs number;" + BRAIDS + ROWS);
        right("row a weak 1;braid e 0;row b weak 1;weighs 1;braid f 0;");
        String twenty = times(" 1", 20) + ";";
        String full = "row a weak" + twenty + "row b sink" + twenty + "row c down" + twenty + "row d strict" + twenty;
        String ten = " 0 1 2 3 4 5 6 7 8 9;";
        full = full + "braid e" + ten + "braid f" + ten + "braid g" + ten + "braid h" + ten + "weighs number;";
        ChainIndex x = Check.told(full + times(" ", 1000 - full.length()));
        due("rows", x.count(0), 4);
        due("braids", x.count(1), 4);
        due("numbers", x.count(2), 80);
        due("made", x.count(3), 4);
        fault(";", 1, 0);
        fault("row a weak 1;;", 1, 13);
        fault("7", 1, 0);
        fault("number;", 1, 0);
        for (String verb : VERBS) fault(verb + " a;", 1, 0);
    }

    // ---- "row: 4 at most, numbered as told" ----

    private static void thereAreFourRowsAtMost() {
        right(ROWS);
        fault(ROWS + "row", 5, 52);
        fault(ROWS + "row e weak 1;", 5, 52);
        fault(ROWS + "row a weak 1;", 5, 52);
        fault(ROWS + " row 5 ! ;", 5, 53);
        fault(ROWS + BRAIDS + "row e weak 1;", 5, 92);
        right(ROWS + BRAIDS);
        ChainIndex x = Check.told("row z down 7;row y weak 8;row a sink 9;row b strict 6;");
        int[] numbers = {7, 8, 9, 6};
        for (int row = 0; row < 4; row++) due("row " + row, x.item(row, 0), numbers[row]);
        due("no fifth", x.row(4, 0), -1);
    }

    // ---- "KIND: strict, weak, down, sink; 1 to 20 NUMBERS, 0 to 99" ----

    private static void aKindIsOneOfFour() {
        ChainIndex x = Check.told("row a sink 1;row b down 1;row c weak 1;row d strict 1;");
        for (int row = 0; row < 4; row++) due("kind", x.row(row, 0), 3 - row);
        fault("row a 1;", 1, 6);
        fault("row a ;", 1, 6);
        fault("row a weak weak 1;", 1, 11);
        for (String word : List.of("row", "braid", "weighs", "append", "cut", "turn", "cross", "keep", "not", "and", "or",
                "number", "kind", "stric", "stricts", "wea", "downs", "sin")) {
            fault("row a " + word + " 1;", 1, 6);
        }
    }

    private static void aRowHasOneToTwentyNumbers() {
        fault("row a weak;", 1, 10);
        fault("row a weak", 1, 10);
        right("row a weak 5;");
        right("row a weak" + times(" 5", 20) + ";");
        fault("row a weak" + times(" 5", 20), 1, 50);
        fault("row a weak" + times(" 5", 21) + ";", 5, 51);
        fault("row a weak" + times(" 5", 21), 5, 51);
        fault("row a weak" + times(" 5", 20) + " 99", 5, 51);
        fault("row a weak" + times(" 5", 20) + " 100", 4, 51);
        fault("row a weak" + times(" 5", 20) + " 00000", 1, 51);
        fault("row a weak" + times(" 5", 20) + " b", 1, 51);
        fault("row a weak" + times(" 5", 19) + " 100", 4, 49);
        ChainIndex x = Check.told("row a weak" + times(" 5", 19) + " 6;");
        due("twenty", x.row(0, 1), 20);
        due("the last", x.item(0, 19), 6);
    }

    private static void aNumberOfARowIsZeroToNinetyNine() {
        ChainIndex x = Check.told("row a weak 0 99;");
        due("0", x.item(0, 0), 0);
        due("99", x.item(0, 1), 99);
        fault("row a weak 100;", 4, 11);
        fault("row a weak 0100;", 4, 11);
        fault("row a weak 9999;", 4, 11);
        fault("row a weak 99 100;", 4, 14);
        fault("row a weak -1;", 1, 11);
        fault("row a weak 1 -1;", 1, 13);
    }

    // ---- "braid: 4 at most, numbered as told; 1 to 10 NUMBERS, 0 to 9, each once, .." ----

    private static void thereAreFourToldBraidsAtMost() {
        right(BRAIDS);
        fault(BRAIDS + "braid", 5, 40);
        fault(BRAIDS + "braid i 0;", 5, 40);
        fault(BRAIDS + "braid e 7 ! ;", 5, 40);
        fault(BRAIDS + ROWS + " braid i 0;", 5, 93);
        ChainIndex x = Check.told("braid d 0;braid c 1 0;braid b 0 1 2;braid a 0 1 2 3;");
        for (int braid = 0; braid < 4; braid++) {
            due("strands", x.braid(braid, 0), braid + 1);
            due("made", x.braid(braid, 2), braid);
        }
    }

    private static void aBraidHasOneToTenNumbers() {
        fault("braid a;", 1, 7);
        fault("braid a", 1, 7);
        right("braid a 0;");
        right("braid a 9 8 7 6 5 4 3 2 1 0;");
        for (int number = 0; number <= 9; number++) {
            // An eleventh one is told already or above 9: these are less than 5, one too many.
            fault("braid a 9 8 7 6 5 4 3 2 1 0 " + number + ";", 3, 28);
        }
        fault("braid a 9 8 7 6 5 4 3 2 1 0 10;", 4, 28);
        fault("braid a 9 8 7 6 5 4 3 2 1 0 00010;", 1, 28);
        fault("braid a 9 8 7 6 5 4 3 2 1 0", 1, 27);
        ChainIndex x = Check.told("braid a 9 8 7 6 5 4 3 2 1 0;");
        due("ten", x.braid(0, 0), 10);
        due("the first", x.ends(0, 0), 9);
        due("the last", x.ends(0, 9), 0);
    }

    private static void aNumberOfABraidIsZeroToNineAndOnce() {
        fault("braid a 10;", 4, 8);
        fault("braid a 9999;", 4, 8);
        fault("braid a 0 10;", 4, 10);
        fault("braid a 0 0;", 3, 10);
        fault("braid a 0 000;", 3, 10);
        fault("braid a 5 5;", 3, 10);
        fault("braid a 1 0 2 1;", 3, 14);
        fault("braid a 9 9;", 3, 10);
        right("braid a 1 0;braid b 1 0;");
        fault("braid a -1;", 1, 8);
    }

    private static void noneIsAsLargeAsThereAreOfThem() {
        fault("braid a 1;", 5, 9);
        fault("braid a 9;", 5, 9);
        right("braid a 1 0;");
        fault("braid a 0 2;", 5, 11);
        fault("braid a 2 0 ;", 5, 12);
        fault("braid a 3 0 1;", 5, 13);
        right("braid a 2 0 1;");
        fault("braid a 0 1 2 3 4 5 6 7 9;", 5, 25);
        right("braid a 0 1 2 3 4 5 6 7 8;");
        right("braid a 0 1 2 3 4 5 6 7 9 8;");
        fault("braid a 1", 1, 9);
        fault("braid a 1 x", 1, 10);
        fault("braid a 1 10;", 4, 10);
    }

    // ---- "weighs: once" ----

    private static void weighsIsToldOnce() {
        right("weighs 1;");
        fault("weighs 1;weighs 1;", 3, 9);
        fault("weighs 1; weighs", 3, 10);
        fault("weighs 1;row a weak 1;weighs ?", 3, 22);
        fault("weighs ;", 1, 7);
        fault("weighs", 1, 6);
        fault("weighs 1", 1, 8);
        ChainIndex x = Check.told("weighs 1;row a weak 7;");
        due("told again in another index", Check.index(x, "weighs 2;row a weak 7;"), 0);
        due("the newer law", Check.weight(x, 0, 0), 2);
    }

    // ---- "WORK: any number of .., 30 lines at most" ----

    private static void aWorkHasThirtyLinesAtMost() {
        workFault("", 0, 0);
        workFault("cut r;", 0, 0);
        workFault(times("cut r;", 29), 0, 0);
        workFault(times("cut r;", 30), 0, 0);
        for (String verb : VERBS) {
            workFault(times("cut r;", 30) + verb, 5, 180);
            workFault(times("cut r;", 30) + " " + verb + " ?", 5, 181);
            workFault(times("cut r;", 29) + verb, 1, 174 + verb.length());
        }
        for (String first : List.of("row", "r", "7", ";", "!", "cuts", "cutcutcut", "not")) {
            workFault(times("cut r;", 30) + first, 1, 180);
        }
        ChainIndex x = Check.told(TOLD);
        due("thirty", Check.work(x, times("turn r;", 30)), 0);
        due("lines", x.count(4), 30);
        due("one too many", Check.work(x, times("turn s;", 31)), 5 + 16 * 210);
        due("the thirty stay", x.count(4), 30);
    }

    // ---- "(a ROW, 0 to 99; a ROW; a ROW; a BRAID, 0 to 8; two BRAIDS)" ----

    private static void aLineOfAWorkHasItsParts() {
        workFault("append", 1, 6);
        workFault("append r", 1, 8);
        workFault("append r 1", 1, 10);
        workFault("append r 1 1;", 1, 11);
        workFault("append r -1;", 1, 9);
        workFault("append r 0;append r 99;", 0, 0);
        workFault("append r 100;", 4, 9);
        workFault("append r 9999;", 4, 9);
        workFault("cut", 1, 3);
        workFault("cut r", 1, 5);
        workFault("cut r s;", 1, 6);
        workFault("turn", 1, 4);
        workFault("turn r", 1, 6);
        workFault("turn r 0;", 1, 7);
        workFault("cross", 1, 5);
        workFault("cross x", 1, 7);
        workFault("cross x 0", 1, 9);
        workFault("cross x 0;cross x 8;", 0, 0);
        workFault("cross x 9;", 4, 8);
        workFault("cross x 10;", 4, 8);
        workFault("cross x 9999;", 4, 8);
        workFault("cross x y;", 1, 8);
        workFault("keep", 1, 4);
        workFault("keep x", 1, 6);
        workFault("keep x x", 1, 8);
        workFault("keep x x x;", 1, 9);
        workFault("keep x 0;", 1, 7);
        workFault("keep x x;keep x y;keep y x;", 0, 0);
        workFault(";", 1, 0);
        workFault("cut r;;", 1, 6);
        workFault("weighs 1;", 1, 0);
        workFault("braid b 0;", 1, 0);
    }

    // ---- "2 a NAME of no ROW (behind append, cut, turn), of no BRAID (behind cross, keep, its second) told" ----

    private static void aNameOfAWorkIsToldAsWhatItIs() {
        for (String verb : List.of("append", "cut", "turn")) {
            int at = verb.length() + 1;
            workFault(verb + " x 1;", 2, at);
            workFault(verb + " q 1;", 2, at);
            workFault(verb + " row 1;", 1, at);
            workFault(verb + " 1 1;", 1, at);
            due("nothing told yet", Check.work(new ChainIndex(), verb + " r 1;"), 2 + 16 * at);
        }
        for (String verb : List.of("cross", "keep")) {
            int at = verb.length() + 1;
            workFault(verb + " r 1;", 2, at);
            workFault(verb + " q 1;", 2, at);
            workFault(verb + " keep 1;", 1, at);
            due("nothing told yet", Check.work(new ChainIndex(), verb + " x 1;"), 2 + 16 * at);
        }
        workFault("keep x r;", 2, 7);
        workFault("keep x q;", 2, 7);
        workFault("keep x turn;", 1, 7);
        ChainIndex x = Check.told(TOLD);
        due("an index with a fault", Check.index(x, "row a weak 1;row b"), 1 + 16 * 18);
        due("its names are not told", Check.work(x, "cut a;"), 2 + 16 * 4);
        due("those ahead still are", Check.work(x, "cut r;"), 0);
        due("another index", Check.index(x, "row a weak 1;braid r 0;"), 0);
        due("the names ahead are told no more", Check.work(x, "cut s;"), 2 + 16 * 4);
        due("r is a braid now", Check.work(x, "cut r;"), 2 + 16 * 4);
        due("r is a braid now", Check.work(x, "keep r r;"), 0);
        due("one that is kept has no name", x.keep(0, 0), 1);
        due("the names are those told", Check.work(x, "keep r r;keep r a;"), 2 + 16 * 16);
    }

    // ---- "A NAME is another WORD than .. the KINDS, not, and, or; no two (ROWS, BRAIDS) are alike." ----

    private static void aNameIsAnotherWord() {
        for (String word : Reference.RESERVED) {
            fault("row " + word + " weak 1;", 1, 4);
            fault("braid " + word + " 0;", 1, 6);
            right("row " + word.charAt(0) + " weak 1;");
            right("row " + word + "q weak 1;");
            workFault("cut " + word + ";", 1, 4);
            workFault("keep x " + word + ";", 1, 7);
        }
        for (String fact : Reference.FACTS) {
            ChainIndex x = Check.told("row " + fact + " weak 5 6;weighs " + fact + ";");
            due("a fact is a name too", Check.work(x, "cut " + fact + ";"), 0);
            due("and a fact", x.judged(1), 1);
        }
        fault("row 1 weak 1;", 1, 4);
        fault("row ; weak 1;", 1, 4);
        fault("row", 1, 3);
        fault("braid", 1, 5);
        fault("row weak 1;", 1, 4);
    }

    private static void noTwoNamesAreAlike() {
        fault("row a weak 1;row a weak 1;", 3, 17);
        fault("row a weak 1;row a ?", 3, 17);
        fault("row a weak 1;braid a 0;", 3, 19);
        fault("braid a 0;braid a 0;", 3, 16);
        fault("braid a 0;row a weak 1;", 3, 14);
        fault("row a weak 1;row b weak 1;row c weak 1;row a weak 1;", 3, 43);
        fault(ROWS + "braid d 0;", 3, 58);
        fault(BRAIDS + "row h weak 1;", 3, 44);
        right("row a weak 1;row aa weak 1;row b weak 1;braid ab 0;braid ba 0;");
        ChainIndex x = Check.told("row a weak 1;");
        due("in another index it may be told", Check.index(x, "braid a 0;"), 0);
    }

    // ---- "E: TEST { and TEST or or TEST }, from the left; TEST: SUM, or SUM < SUM, or SUM = SUM; .." ----

    private static void aTestComparesOnce() {
        for (String one : List.of("<", "=")) {
            for (String two : List.of("<", "=")) {
                fault("weighs 1" + one + "2" + two + "3;", 1, 10);
                fault("weighs 1" + one + "2+3*4" + two + "3;", 1, 14);
                fault("weighs (1" + one + "2" + two + "3);", 1, 11);
                fault("weighs (1)" + one + "2" + two + "3;", 1, 12);
                right("weighs (1" + one + "2)" + two + "3;");
                right("weighs 1" + one + "(2" + two + "3);");
                right("weighs 1" + one + "2 and 2" + two + "3 or 1" + one + "2;");
                fault("weighs 1" + one + "2 and 2" + two + "3" + one + "4;", 1, 18);
                fault("weighs 1" + one + "(2" + two + "3)" + one + "1;", 1, 14);
            }
        }
        due("not is of a part", weighed("not 1 < 1", 1), 1);
        due("a sum on both sides", weighed("1 + 1 < 1 + 2", 1), 1);
    }

    private static void anEHasItsParts() {
        for (String sign : List.of("+", "-", "*", "<", "=", "and", "or")) {
            fault("weighs " + sign + " 1;", 1, 7);
            fault("weighs 1 " + sign + ";", 1, 9 + sign.length());
            fault("weighs 1 " + sign, 1, 9 + sign.length());
            fault("weighs (1 " + sign + " );", 1, 11 + sign.length());
            fault("weighs 1 " + sign + " " + sign + " 1;", 1, 10 + sign.length());
            right("weighs 1 " + sign + " 1;");
        }
        fault("weighs 1 1;", 1, 9);
        fault("weighs 1 place;", 1, 9);
        fault("weighs place 1;", 1, 13);
        fault("weighs 1 not 1;", 1, 9);
        fault("weighs 1 (1);", 1, 9);
        fault("weighs (1)(1);", 1, 10);
        fault("weighs (1) 1;", 1, 11);
        fault("weighs not;", 1, 10);
        fault("weighs not", 1, 10);
        fault("weighs not and;", 1, 11);
        fault("weighs ();", 1, 8);
        fault("weighs (", 1, 8);
        fault("weighs (1", 1, 9);
        fault("weighs (1;", 1, 9);
        fault("weighs 1);", 1, 8);
        fault("weighs (1));", 1, 10);
        fault("weighs );", 1, 7);
        fault("weighs not (1;", 1, 13);
        fault("weighs row;", 1, 7);
        fault("weighs weak;", 1, 7);
        fault("weighs numbers;", 1, 7);
        fault("row a weak 1;weighs a;", 1, 20);
    }

    private static void anEGoesFromTheLeft() {
        due("1 or 1 and 0", weighed("1 or 1 and 0", 1), 0);
        due("0 and 1 or 1", weighed("0 and 1 or 1", 1), 1);
        due("0 and (1 or 1)", weighed("0 and (1 or 1)", 1), 0);
        due("7 - 2 - 1", weighed("7 - 2 - 1", 1), 4);
        due("7 - 2 + 1", weighed("7 - 2 + 1", 1), 6);
        due("7 - (2 + 1)", weighed("7 - (2 + 1)", 1), 4);
        due("7 - 2 * 3", weighed("7 - 2 * 3", 1), 1);
        due("2 * 3 - 7", weighed("2 * 3 - 7", 1), -1);
        due("1 and 2 is 1", weighed("1 and 2", 1), 1);
        due("0 or 2 is 1", weighed("0 or 2", 1), 1);
        due("a test without a sign is its sum", weighed("5", 1), 5);
        due("brackets leave it as it is", weighed("((5))", 1), 5);
    }

    // ---- "no PART lies within 5 of not and ( )" ----

    private static void noPartLiesWithinFive() {
        String parts = "7 number place many kind";
        for (String part : parts.split(" ")) {
            right("weighs ((((" + part + "))));");
            fault("weighs (((((" + part + ")))));", 5, 12);
            right("weighs not not not not " + part + ";");
            fault("weighs not not not not not " + part + ";", 5, 27);
            right("weighs not(not(" + part + "));");
            fault("weighs not(not(not " + part + "));", 5, 19);
            right("weighs (((" + part + "+" + part + ")*" + part + "))<(((" + part + ")));");
        }
        fault("weighs (((((not 1)))));", 5, 12);
        fault("weighs ((((((1))))));", 5, 12);
        fault("weighs ((((( ( ", 5, 13);
        fault("weighs (((( not not", 5, 16);
        fault("weighs not not not not not not", 5, 27);
        fault("weighs not not not not not (1);", 5, 27);
        fault("weighs ((((1 + (1", 5, 16);
        fault("weighs ((((1 + not 1", 5, 19);
        right("weighs ((((1 + 1 - 1 * 1 < 1 and 1))));");
    }

    private static void whatCantStandWithinFiveIsLess() {
        for (String wrong : List.of(")", ";", "*", "and", "foo", "row", "12345", "abcdefghi", "!", "")) {
            fault("weighs (((((" + wrong, 1, 12);
            fault("weighs not not not not not " + wrong, 1, 27);
        }
    }

    private static void whatIsClosedCountsNoMore() {
        right("weighs ((((1))))+((((1))))*not not not not 1;");
        right("weighs not not not not 1 + not not not not 1;");
        right("weighs ((((1))) + (((1))));");
        fault("weighs ((((1))) + ((((1)))));", 5, 22);
        right("weighs " + times("(1)+", 200) + "1;");
        right("weighs " + times("not 1+", 150) + "1;");
        right("weighs " + times("not (not 1)+", 80) + "1;");
    }

    private static void theDeepestAndTheLongestEAreWeighed() {
        String level = "1 and 0 < 0 + 1 * (";
        String deep = times(level, 4) + "1 and 0 < 0 + 1 * number" + times(")", 4);
        due("of 0", weighed(deep, 0), 0);
        due("of 3", weighed(deep, 3), 1);
        String nots = times("0 or 1 = 1 - 1 * not (", 2) + "0 or 1 = 1 - 1 * number" + times(")", 2);
        due("of 0", weighed(nots, 0), 1);
        due("of 5", weighed(nots, 5), 0);
        String text = "weighs number" + times("+1", 486) + ";row a weak 5;";
        due("text", text.length(), 999);
        due("as long as can be", Check.weight(Check.told(text), 0, 0), 491);
        String words = "weighs number" + times(" or 0", 190) + ";row a weak 5;";
        due("as long as can be", Check.weight(Check.told(words), 0, 0), 1);
    }

    // ---- "Facts: number, place (from 0), many (how many the ROW has), kind (0 strict, 1 weak, 2 down, 3 sink)." ----

    private static void factsAreOfThePlace() {
        String rows = "row a strict 5 6 7;row b weak 5 6;row c down 9;row d sink" + times(" 1", 20) + ";";
        ChainIndex p = Check.told("weighs place;" + rows);
        due("from 0", Check.weight(p, 0, 0), 0);
        due("the last", Check.weight(p, 3, 19), 19);
        ChainIndex m = Check.told("weighs many;" + rows);
        int[] many = {3, 2, 1, 20};
        ChainIndex k = Check.told("weighs kind;" + rows);
        for (int row = 0; row < 4; row++) {
            due("many", Check.weight(m, row, 0), many[row]);
            due("kind", Check.weight(k, row, 0), row);
        }
        m.append(2, 9);
        due("many is as it is", Check.weight(m, 2, 0), 2);
        m.cut(0);
        due("many is as it is", Check.weight(m, 0, 0), 2);
        p.turn(0);
        due("a turned row's places are from 0", Check.weight(p, 0, 0), 0);
        ChainIndex n = Check.told("weighs number;row a weak 0 99;");
        due("0", Check.weight(n, 0, 0), 0);
        due("99", Check.weight(n, 0, 1), 99);
    }

    // ---- "Of not, and, or, < and = comes 1 or 0; what is not 0 is so; ints wrap" ----

    private static void whatIsNotZeroIsSo() {
        due("not 0", weighed("not 0", 1), 1);
        due("not 1", weighed("not 1", 1), 0);
        due("not 9999", weighed("not 9999", 1), 0);
        due("not below 0", weighed("not (0-1)", 1), 0);
        due("not the least int", weighed("not (" + LEAST + ")", 1), 0);
        due("not all round", weighed("not (" + ALL_ROUND + ")", 1), 1);
        due("below 0 and", weighed("0-1 and 2", 1), 1);
        due("0 and", weighed("0 and 2", 1), 0);
        due("and 0", weighed("2 and 0", 1), 0);
        due("and all round", weighed("2 and " + ALL_ROUND, 1), 0);
        due("or below 0", weighed("0 or 0-1", 1), 1);
        due("or 0", weighed("0 or 0", 1), 0);
        due("or all round", weighed(ALL_ROUND + " or 0", 1), 0);
        due("less", weighed("1 < 2", 1), 1);
        due("alike is not less", weighed("2 < 2", 1), 0);
        due("more is not less", weighed("3 < 2", 1), 0);
        due("alike", weighed("2 = 2", 1), 1);
        due("not alike", weighed("2 = 3", 1), 0);
    }

    private static void intsWrap() {
        due("the least int", weighed(LEAST, 1), Integer.MIN_VALUE);
        due("less one", weighed(LEAST + "-1", 1), Integer.MAX_VALUE);
        due("and one more", weighed(LEAST + "-1+1", 1), Integer.MIN_VALUE);
        due("all round", weighed(ALL_ROUND, 1), 0);
        due("0 less the least", weighed("0-" + LEAST, 1), Integer.MIN_VALUE);
        due("the least times below 0", weighed(LEAST + "*(0-1)", 1), Integer.MIN_VALUE);
        due("three times 9999", weighed("9999*9999*9999", 1), 9999 * 9999 * 9999);
        due("the least is less than the greatest", weighed(LEAST + " < " + LEAST + "-1", 1), 1);
        due("the greatest is no less", weighed(LEAST + "-1 < " + LEAST, 1), 0);
        due("the least is less than 1", weighed(LEAST + " < 1", 1), 1);
        due("all round is 0", weighed(ALL_ROUND + " = 0", 1), 1);
    }

    private static void wrappedWeightsFollowAsInts() {
        String law = "weighs " + LEAST + "-number;";
        ChainIndex up = Check.told(law + "row a strict 0 1;row b weak 0 1;row c down 0 1;row d sink 0 1;");
        ChainIndex down = Check.told(law + "row a strict 1 0;row b weak 1 0;row c down 1 0;row d sink 1 0;");
        for (int row = 0; row < 4; row++) {
            due("least, greatest", up.chain(row, 0, 2), row < 2 ? 2 : 1);
            due("greatest, least", down.chain(row, 0, 2), row < 2 ? 1 : 2);
            due("piles", up.piles(row, 0, 2, -1), row < 2 ? 2 : 1);
            due("shape", down.shape(row, 0, 2, 0), row < 2 ? 1 : 2);
        }
        due("common", up.common(0, 2, 0, 2), 2);
    }

    // ---- "Without weighs: number" ----

    private static void withoutWeighsItIsTheNumber() {
        ChainIndex x = Check.told("row a weak 7 99;");
        due("7", Check.weight(x, 0, 0), 7);
        due("99", Check.weight(x, 0, 1), 99);
        Check.index(x, "row a weak 7;weighs 5;");
        due("with it", Check.weight(x, 0, 0), 5);
        due("a fault behind weighs", Check.index(x, "weighs 6;row a weak 8;!"), 1 + 16 * 22);
        due("the law stays", Check.weight(x, 0, 0), 5);
        due("a fault within weighs", Check.index(x, "weighs 6+;"), 1 + 16 * 9);
        due("the law stays", Check.weight(x, 0, 0), 5);
        Check.index(x, "row a weak 7;");
        due("without it again", Check.weight(x, 0, 0), 7);
        due("a new object's draws weigh what they are", new ChainIndex().drawn(5, 6, 10, 0), 3);
    }

    // ---- "FAULTS, kind + 16 * the place (from 0) of a token, the end being one at the text's length" ----

    private static void theEndIsATokenAtTheTextsLength() {
        fault("row", 1, 3);
        fault("row ", 1, 4);
        fault("row\n\n\n", 1, 6);
        fault("row a weak 1  ", 1, 14);
        fault("row a weak 1" + times(" ", 988), 1, 1000);
        workFault("cut", 1, 3);
        workFault("cut r  ", 1, 7);
        workFault("cut r" + times("\n", 995), 1, 1000);
        right(times(" ", 1000));
    }

    // ---- "of the first token from the left that is wrong the least" ----

    private static void theFirstWrongTokenFromTheLeftTells() {
        fault("! row row", 1, 0);
        fault("row a weak 100 ! 5", 4, 11);
        fault("row a weak 1 ! 100", 1, 13);
        fault("braid a 0 0 10", 3, 10);
        fault("braid a 0 10 0", 4, 10);
        fault("row a weak 1;row a weak 100;", 3, 17);
        fault("weighs 1;weighs (((((1", 3, 9);
        fault("weighs (((((1)))));weighs 1;", 5, 12);
        workFault("cut q;cut !;", 2, 4);
        workFault("append r 100;cut q;", 4, 9);
        workFault("cross r 9;", 2, 6);
        workFault("append x 100;", 2, 7);
    }

    // ---- "0, or its FAULT (all stays then)" ----

    private static void withAFaultAllStays() {
        String[] texts = {"!", "row", "row a weak 100;", "row a weak 1;row a", "braid a 1;", "weighs 1;weighs",
            "row q weak 9 9 9;braid z 0;weighs 7;!", "weighs (((((1", ROWS + "row", "cut r;"};
        for (String text : texts) {
            Portrait.stays(CHECK, "index of " + text, x -> {
                Portrait.busy(x);
                x.index();
            }, x -> Check.index(x, text) != 0 ? 1 : 0, 1);
        }
        String[] works = {"!", "cut", "cut q;", "cut r;cut r;cut x;", "append r 100;", times("cut r;", 31), "row a weak 1;"};
        for (String text : works) {
            Portrait.stays(CHECK, "work of " + text, x -> {
                Portrait.busy(x);
                x.work();
            }, x -> Check.work(x, text) != 0 ? 1 : 0, 1);
        }
    }

    // ---- "Without a FAULT an INDEX is the INDEX from then on: .. A WORK is the WORK. At first: nothing." ----

    private static void withoutAFaultTheIndexIsAnother() {
        String[] texts = {"", "row q weak 9 8;", "braid z 1 0;", "weighs 1;", "row r strict 3 1 4;braid x 0;"};
        for (String text : texts) {
            ChainIndex x = new ChainIndex();
            Portrait.busy(x);
            x.work();
            due("index of " + text, Check.index(x, text), 0);
            ChainIndex y = Check.told(text);
            CHECK.due("as in a new object: " + text, Portrait.of(x).equals(Portrait.of(y)), true);
        }
    }

    /** What a reader that stopped within a text has begun must not be left in the next one. */
    private static void aFaultLeavesNothingInTheNextText() {
        String[] faulty = {"weighs ((((1 + not", "weighs 1 and 1 < 1 + 1 * (", "weighs not not not not", "row a weak 1 2 3",
            "braid a 3 2 1", ROWS + BRAIDS + "weighs 1;!", "cut r;", times("cut r;", 31)};
        String right = "row a weak 5 6;braid b 1 0;weighs ((((number)))) * 2 + not not not not 1;";
        for (String text : faulty) {
            ChainIndex x = new ChainIndex();
            due("a fault in " + text, Check.index(x, text) != 0 ? 1 : 0, 1);
            due("the next one", Check.index(x, right), 0);
            due("a fault in " + text, Check.work(x, text) != 0 ? 1 : 0, 1);
            due("its work", Check.work(x, "cut a;"), 0);
            ChainIndex y = Check.told(right);
            Check.work(y, "cut a;");
            CHECK.due("as in a new object", Portrait.of(x).equals(Portrait.of(y)), true);
        }
    }

    private static void withoutAFaultTheWorkIsAnother() {
        ChainIndex x = Check.told(TOLD);
        due("no work at first", x.count(4), 0);
        Check.work(x, "cut r;cut r;cut r;");
        due("its first line that can't be", x.judged(0), 2);
        due("another", Check.work(x, "cut s;"), 0);
        due("one line", x.count(4), 1);
        due("its first line that can't be", x.judged(0), 0);
        due("an empty one", x.work(), 0);
        due("no line", x.count(4), 0);
        due("none that can't be", x.judged(0), -1);
        x.append(0, 7);
        x.see(0, 1, true);
        x.mark(0, false);
        Check.work(x, "turn r;");
        due("what is done stays", x.count(2), 5);
        due("what can be undone stays", x.count(6), 1);
        due("what is seen stays", x.count(5), 1);
        due("marks stay", x.mark(0, true) ? 1 : 0, 1);
    }

    public static void main(String[] args) {
        theTapeHasAtMostAThousandSigns();
        whatIsBeyondAThousandIsLeftOut();
        othersThanTenAndThirtyTwoToHundredTwentySixAreLeftOut();
        ofEachLongTheHighestByteComesFirst();
        whatReadsTheTapeTakesIt();
        tokensAreAsLongAsCanBe();
        blanksAreWhereOneLikes();
        aWordHasEightLettersAtMost();
        aNumberHasOneToFourDigits();
        aLetterMayStandRightBehindANumber();
        allElseIsNone();
        anIndexIsAnyNumberOfThem();
        thereAreFourRowsAtMost();
        aKindIsOneOfFour();
        aRowHasOneToTwentyNumbers();
        aNumberOfARowIsZeroToNinetyNine();
        thereAreFourToldBraidsAtMost();
        aBraidHasOneToTenNumbers();
        aNumberOfABraidIsZeroToNineAndOnce();
        noneIsAsLargeAsThereAreOfThem();
        weighsIsToldOnce();
        aWorkHasThirtyLinesAtMost();
        aLineOfAWorkHasItsParts();
        aNameOfAWorkIsToldAsWhatItIs();
        aNameIsAnotherWord();
        noTwoNamesAreAlike();
        aTestComparesOnce();
        anEHasItsParts();
        anEGoesFromTheLeft();
        noPartLiesWithinFive();
        whatCantStandWithinFiveIsLess();
        whatIsClosedCountsNoMore();
        theDeepestAndTheLongestEAreWeighed();
        factsAreOfThePlace();
        whatIsNotZeroIsSo();
        intsWrap();
        wrappedWeightsFollowAsInts();
        withoutWeighsItIsTheNumber();
        theEndIsATokenAtTheTextsLength();
        theFirstWrongTokenFromTheLeftTells();
        withAFaultAllStays();
        withoutAFaultTheIndexIsAnother();
        aFaultLeavesNothingInTheNextText();
        withoutAFaultTheWorkIsAnother();
        CHECK.end();
    }
}
