/** For each promise of the document: ordinary inputs, the edges it names, and wrong inputs. */
public final class PromiseTest {
    private static final Check CHECK = new Check("PromiseTest");
    private static final int FAR = Integer.MAX_VALUE;
    private static final int DEEP = Integer.MIN_VALUE;
    private static final int[] OTHERS = {-1, -2, 4, 8, 1000, FAR, DEEP};
    private static final String TOLD = "row r strict 3 1 4 1 5 9 2 6; row s weak 2 1 3; row d down 5 3 3 1; row k sink 5 3 3 1;"
            + "braid x 1 0 2; braid y 0 2 1; braid z 2 1 0; braid w 3 1 0 2;";

    private static void due(String call, long got, long want) {
        CHECK.due(call, got, want);
    }

    private static void due(String call, boolean got, boolean want) {
        CHECK.due(call, got, want);
    }

    private static void fault(String text, int kind, int place) {
        ChainIndex x = new ChainIndex();
        due("index of " + text, Check.index(x, text), kind == 0 ? 0 : kind + 16 * place);
    }

    private static void workFault(String text, int kind, int place) {
        ChainIndex x = Check.told(TOLD);
        due("work of " + text, Check.work(x, text), kind == 0 ? 0 : kind + 16 * place);
    }

    private static String times(String text, int often) {
        return text.repeat(often);
    }

    private static void promise1NewObject() {
        ChainIndex x = new ChainIndex();
        for (int what = 0; what <= 7; what++) {
            due("new: count " + what, x.count(what), 0);
        }
        due("new: judged 0", x.judged(0), -1);
        due("new: judged 1", x.judged(1), 0);
        due("new: judged 2", x.judged(2), 0);
        due("new: undo", x.undo(), false);
        due("new: index of nothing", x.index(), 0);
        due("new: work of nothing", x.work(), 0);
    }

    private static void promise2Feed() {
        ChainIndex x = new ChainIndex();
        due("feed 0", x.feed(0, 0, 0), 0);
        due("feed all left out", x.feed(-1, 0x7f1f0b0900ff80e4L, 0), 0);
        due("feed edges", x.feed(0x0a207e1f7f000000L, 0, 0), 3);
        due("feed 24", x.feed(Check.pack("abcdefgh", 0), Check.pack("ijklmnop", 0), Check.pack("qrstuvwx", 0)), 27);
        for (int i = 0; i < 50; i++) {
            Check.feed(x, times("a", 24));
        }
        due("feed beyond 1000", x.count(7), 1000);
        due("feed full", x.feed(Check.pack("a", 0), 0, 0), 1000);
        due("the first signs stay: ~ at 2", x.index(), 1 + 16 * 2);
        due("it is empty then", x.count(7), 0);
        ChainIndex y = new ChainIndex();
        Check.feed(y, times(" ", 977));
        Check.feed(y, "row a strict 1;row b st");
        due("1000 signs", y.count(7), 1000);
        due("what is beyond is not read", y.index(), 1 + 16 * 998);
        ChainIndex z = new ChainIndex();
        z.feed(Check.pack("row a ", 0), Check.pack("weak 1 2", 0), Check.pack(" ;", 0));
        due("the bytes in their order", z.index(), 0);
        due("the row is there", z.row(0, 1), 2);
    }

    private static void promise3Index() {
        fault("", 0, 0);
        fault(" \n ", 0, 0);
        fault("row a strict 1;", 0, 0);
        fault("row\na\nstrict1 2;braid b0;weighs 2number*3;", 1, 33);
        fault("row a strict1 02 0003;braid b0;weighs number*3;", 0, 0);
        fault("row row strict 1;", 1, 4);
        for (String word : Reference.RESERVED) {
            fault("row " + word + " strict 1;", 1, 4);
            fault("braid " + word + " 0;", 1, 6);
        }
        for (String fact : Reference.FACTS) {
            fault("row " + fact + " strict 1;", 0, 0);
        }
        fault("row abcdefgh strict 1;", 0, 0);
        fault("row abcdefghi strict 1;", 1, 4);
        fault("row a up 1;", 1, 6);
        fault("row a not 1;", 1, 6);
        fault("row a keep 1;", 1, 6);
        fault("row a strict;", 1, 12);
        fault("row a strict", 1, 12);
        fault("row a strict   ", 1, 15);
        fault("row a strict 1", 1, 14);
        fault("row a strict 1 x", 1, 15);
        fault("row a strict 99;", 0, 0);
        fault("row a strict 100;", 4, 13);
        fault("row a strict 9999;", 4, 13);
        fault("row a strict 10000;", 1, 13);
        fault("row a strict" + times(" 7", 20) + ";", 0, 0);
        fault("row a strict" + times(" 7", 21) + ";", 5, 53);
        fault("row a strict" + times(" 7", 20) + " 100;", 4, 53);
        fault("row A strict 1;", 1, 4);
        fault("row a strict 1; row a weak 2;", 3, 20);
        fault("braid a 0; row a weak 2;", 3, 15);
        fault("row a weak 2; braid a 0;", 3, 20);
        String fours = "row a weak 1;row b weak 1;row c weak 1;row d weak 1;";
        fault(fours, 0, 0);
        fault(fours + "row", 5, 52);
        fault("braid a 0;braid b 0;braid c 0;braid d 0;", 0, 0);
        fault("braid a 0;braid b 0;braid c 0;braid d 0; braid e 0;", 5, 41);
        fault("braid a ;", 1, 8);
        fault("braid a 0 0;", 3, 10);
        fault("braid a 0 00;", 3, 10);
        fault("braid a 10;", 4, 8);
        fault("braid a 0 1 2 3 4 5 6 7 8 9;", 0, 0);
        fault("braid a 0 1 2 3 4 5 6 7 8 9 9;", 3, 28);
        fault("braid a 0 1 2 3 4 5 6 7 8 9 10;", 4, 28);
        fault("braid a 1 ;", 5, 10);
        fault("braid a 0 2 ;", 5, 12);
        fault("braid a 0 9 2 1;", 5, 15);
        fault("cut a;", 1, 0);
        fault(";", 1, 0);
        fault("weighs 1; weighs 2;", 3, 10);
        fault("weighs;", 1, 6);
        fault("weighs 1", 1, 8);
        fault("weighs 1 2;", 1, 9);
        fault("weighs foo;", 1, 7);
        fault("weighs -1;", 1, 7);
        fault("weighs 1 < 2 = 3;", 1, 13);
        fault("weighs 1 < 2 and 3 = 4 or 5 < 6;", 0, 0);
        fault("weighs 1 < (2 < 3);", 0, 0);
        fault("weighs (1;", 1, 9);
        fault("weighs 1);", 1, 8);
        fault("weighs ();", 1, 8);
        fault("weighs 12345;", 1, 7);
        fault("weighs 1 not 2;", 1, 9);
        fault("weighs not;", 1, 10);
        fault("weighs ((((1))));", 0, 0);
        fault("weighs (((((1)))));", 5, 12);
        fault("weighs (((((not 1)))));", 5, 12);
        fault("weighs ((((((1))))));", 5, 12);
        fault("weighs ((((()))));", 1, 12);
        fault("weighs not not not not 1;", 0, 0);
        fault("weighs not not not not not 1;", 5, 27);
        fault("weighs not not not not not not;", 5, 27);
        fault("weighs not (not (not (not (1))));", 5, 21);
        fault("weighs (((1)))+(((not 1)));", 0, 0);
        fault("weighs not 1 + not 1 + not 1 + not 1 + not 1 + not 1 + (1) + (1) + (1);", 0, 0);
        fault("weighs number & 2;", 1, 14);
        ChainIndex l = Check.told("weighs 0 - number; row a weak 3 4;");
        due("a law", Check.weight(l, 0, 1), -4);
        due("a fault within", Check.index(l, "weighs ((1 + not ("), 1 + 16 * 18);
        due("a law stays", Check.weight(l, 0, 1), -4);
        due("another law", Check.index(l, "weighs ((((number)))) + 1; row a weak 3 4;"), 0);
        due("another law", Check.weight(l, 0, 1), 5);
        due("none", Check.index(l, "row a weak 3 4;"), 0);
        due("without weighs", Check.weight(l, 0, 1), 4);
        ChainIndex x = Check.told(TOLD);
        x.append(0, 7);
        x.see(0, 1, true);
        x.mark(2, false);
        x.keep(0, 1);
        Check.work(x, "cut r;");
        due("a fault", Check.index(x, "row q strict 100;"), 4 + 16 * 13);
        due("all stays: rows", x.count(0), 4);
        due("all stays: made", x.count(3), 5);
        due("all stays: work", x.count(4), 1);
        due("all stays: seen", x.count(5), 1);
        due("all stays: undo", x.count(6), 2);
        due("all stays: weighs", Check.weight(x, 0, 2), 4);
        due("no fault", Check.index(x, "row q sink 5 6; braid one 0;"), 0);
        due("rows", x.count(0), 1);
        due("braids", x.count(1), 1);
        due("numbers", x.count(2), 2);
        due("made", x.count(3), 1);
        due("no work", x.count(4), 0);
        due("nothing seen", x.count(5), 0);
        due("no undo", x.count(6), 0);
        due("no mark", x.mark(2, true), false);
        due("nothing told", x.index(), 0);
        due("no rows then", x.count(0), 0);
        due("no braids made then", x.count(3), 0);
    }

    private static void promise4Work() {
        workFault("", 0, 0);
        workFault("append r 99; cut s; turn d; cross x 8; keep x w;", 0, 0);
        workFault("append r0;cut s;turn d;cross x0;keep x\nw;", 0, 0);
        workFault("row r strict 1;", 1, 0);
        workFault("append r 100;", 4, 9);
        workFault("append r;", 1, 8);
        workFault("append r x;", 1, 9);
        workFault("append q 1;", 2, 7);
        workFault("append x 1;", 2, 7);
        workFault("append cut 1;", 1, 7);
        workFault("append 1 1;", 1, 7);
        workFault("append r 1", 1, 10);
        workFault("append r 1 2;", 1, 11);
        workFault("cut x;", 2, 4);
        workFault("cut r 1;", 1, 6);
        workFault("turn y;", 2, 5);
        workFault("cross x 8;", 0, 0);
        workFault("cross x 9;", 4, 8);
        workFault("cross r 0;", 2, 6);
        workFault("cross x x;", 1, 8);
        workFault("keep x r;", 2, 7);
        workFault("keep r x;", 2, 5);
        workFault("keep x;", 1, 6);
        workFault("keep x number;", 2, 7);
        workFault("keep x not;", 1, 7);
        workFault(times("cut r;", 30), 0, 0);
        workFault(times("cut r;", 31), 5, 180);
        workFault(times("cut r;", 30) + "cut", 5, 180);
        workFault(times("cut r;", 30) + "cat", 1, 180);
        ChainIndex x = Check.told(TOLD);
        due("work", Check.work(x, "cut r; cut s;"), 0);
        due("lines", x.count(4), 2);
        due("a fault", Check.work(x, "cut r; cut s; cut d; cut q;"), 2 + 16 * 25);
        due("the work stays", x.count(4), 2);
        due("the tape is taken", x.count(7), 0);
        due("nothing is done", x.count(2), 19);
        due("another work", Check.work(x, "turn r;"), 0);
        due("its lines", x.count(4), 1);
    }

    private static void promise5Row() {
        ChainIndex x = Check.told(TOLD);
        for (int kind = 0; kind < 4; kind++) {
            due("kind", x.row(kind, 0), kind);
        }
        due("many", x.row(0, 1), 8);
        due("many", x.row(3, 1), 4);
        due("what 2", x.row(0, 2), -1);
        due("what -1", x.row(0, -1), -1);
        for (int other : OTHERS) {
            due("row " + other, x.row(other, 0), -1);
        }
    }

    private static void promise6Item() {
        ChainIndex x = Check.told(TOLD);
        due("item", x.item(0, 5), 9);
        due("item", x.item(2, 3), 1);
        due("item behind", x.item(2, 4), -1);
        due("item ahead", x.item(2, -1), -1);
        due("item far", x.item(2, FAR), -1);
        due("item deep", x.item(2, DEEP), -1);
        for (int other : OTHERS) {
            due("item of row " + other, x.item(other, 0), -1);
        }
    }

    private static long weighs(String law, String numbers, int place) {
        return Check.weight(Check.told("weighs " + law + ";row q down " + numbers + ";"), 0, place);
    }

    private static void promise7Weight() {
        due("without weighs", Check.weight(Check.told("row q sink 4 9;"), 0, 1), 9);
        due("number", weighs("number", "4 9", 0), 4);
        due("place", weighs("place", "4 9", 1), 1);
        due("many", weighs("many", "4 9 1", 1), 3);
        due("kind", weighs("kind", "4 9 1", 1), 2);
        due("- from the left", weighs("9-3-2", "1", 0), 4);
        due("* first", weighs("2+3*4", "1", 0), 14);
        due("* from within", weighs("(2+3)*4", "1", 0), 20);
        due("a sum as it is", weighs("7", "1", 0), 7);
        due("<", weighs("2<3", "1", 0), 1);
        due("< of equal ones", weighs("3<3", "1", 0), 0);
        due("=", weighs("1+2=3", "1", 0), 1);
        due("and of what is not 0", weighs("7 and 8", "1", 0), 1);
        due("or of what is not 0", weighs("0 or 8", "1", 0), 1);
        due("or of what is not 0", weighs("8 or 0", "1", 0), 1);
        due("or of 0", weighs("0 or 0", "1", 0), 0);
        due("and, or from the left", weighs("1 or 1 and 0", "1", 0), 0);
        due("and, or from the left", weighs("0 and 0 or 1", "1", 0), 1);
        due("not of a part", weighs("not 0 + 5", "1", 0), 6);
        due("not of a part", weighs("not 3 * 5", "1", 0), 0);
        due("not not", weighs("not not 9", "1", 0), 1);
        due("below 0 is so", weighs("not (0-1)", "1", 0), 0);
        due("below 0 is less", weighs("0-1<0", "1", 0), 1);
        due("ints wrap", weighs("9999*9999*9999", "1", 0), 9999 * 9999 * 9999);
        due("tests within and", weighs("number<5 and place=1", "3 4", 1), 1);
        ChainIndex x = Check.told("row q strict 5 6; weighs number*many+place;");
        due("told behind", Check.weight(x, 0, 1), 13);
        x.append(0, 0);
        due("many is as it is", Check.weight(x, 0, 1), 19);
        x.turn(0);
        due("place is as it is", Check.weight(x, 0, 2), 17);
        for (int other : new int[] {-1, 3, FAR, DEEP}) {
            due("weight at " + other, Check.weight(x, 0, other), Long.MIN_VALUE);
            due("weight of row " + other, Check.weight(x, other, 0), Long.MIN_VALUE);
        }
    }

    private static void promise8Braid() {
        ChainIndex x = Check.told(TOLD);
        due("strands", x.braid(3, 0), 4);
        due("crossings", x.braid(3, 1), 4);
        due("crossings", x.braid(2, 1), 3);
        due("made", x.braid(3, 2), 3);
        due("what 3", x.braid(3, 3), -1);
        due("what -1", x.braid(3, -1), -1);
        due("keep", x.keep(0, 1), 4);
        x.undo();
        due("keep", x.keep(0, 1), 4);
        due("made counts what is undone", x.braid(4, 2), 5);
        Check.work(x, "keep x x; keep x x;");
        x.judged(2);
        due("made by no judged", x.count(3), 6);
        for (int other : new int[] {-1, 5, 8, FAR, DEEP}) {
            due("braid " + other, x.braid(other, 0), -1);
        }
    }

    private static void promise9Append() {
        ChainIndex x = Check.told(TOLD);
        due("append", x.append(1, 0), 4);
        due("append 99", x.append(1, 99), 5);
        due("it is there", x.item(1, 4), 99);
        due("append 100", x.append(1, 100), -1);
        due("append -1", x.append(1, -1), -1);
        for (int many = 6; many <= 20; many++) {
            due("append", x.append(1, 7), many);
        }
        due("append a 21st", x.append(1, 7), -1);
        due("what can be undone", x.count(6), 16);
        for (int other : OTHERS) {
            due("append to " + other, x.append(other, 0), -1);
        }
    }

    private static void promise10Cut() {
        ChainIndex x = Check.told(TOLD);
        due("cut", x.cut(1), 3);
        due("cut", x.cut(1), 1);
        due("cut the last one", x.cut(1), -1);
        due("one is left", x.row(1, 1), 1);
        due("undone: two", x.count(6), 2);
        for (int other : OTHERS) {
            due("cut of " + other, x.cut(other), -1);
        }
    }

    private static void promise11Turn() {
        ChainIndex x = Check.told(TOLD);
        due("turn", x.turn(1), true);
        due("item 0", x.item(1, 0), 3);
        due("item 1", x.item(1, 1), 1);
        due("item 2", x.item(1, 2), 2);
        due("the kind stays", x.row(1, 0), 1);
        int[] turned = {6, 2, 9, 5, 1, 4, 1, 3};
        due("turn of eight", x.turn(0), true);
        for (int place = 0; place < turned.length; place++) {
            due("item " + place, x.item(0, place), turned[place]);
        }
        x.cut(1);
        x.cut(1);
        due("turn of one", x.turn(1), true);
        due("it can be undone", x.count(6), 5);
        for (int other : OTHERS) {
            due("turn of " + other, x.turn(other), false);
        }
    }

    private static void promise12Cross() {
        ChainIndex x = Check.told("braid i 0 1 2 3; braid one 0;");
        due("cross", x.cross(0, 1), true);
        due("ends 1", x.ends(0, 1), 2);
        due("ends 2", x.ends(0, 2), 1);
        due("they have crossed already", x.cross(0, 1), false);
        due("cross", x.cross(0, 2), true);
        due("strand 1 goes on", x.ends(0, 1), 3);
        due("strand 3 comes", x.ends(0, 3), 2);
        due("crossings", x.braid(0, 1), 2);
        due("cross at 0", x.cross(0, 0), true);
        due("strand 0", x.ends(0, 0), 1);
        due("cross at the end", x.cross(0, 3), false);
        due("cross at -1", x.cross(0, -1), false);
        due("cross far", x.cross(0, FAR), false);
        due("cross deep", x.cross(0, DEEP), false);
        due("cross of one strand", x.cross(1, 0), false);
        due("what can be undone", x.count(6), 3);
        for (int other : OTHERS) {
            due("cross of " + other, x.cross(other, 0), false);
        }
    }

    private static void promise13Keep() {
        ChainIndex x = Check.told(TOLD);
        due("keep", x.keep(0, 1), 4);
        due("ends", x.ends(4, 0), 2);
        due("ends", x.ends(4, 1), 0);
        due("ends", x.ends(4, 2), 1);
        due("other strands", x.keep(0, 3), -1);
        due("one, twice", x.keep(3, 3), 5);
        due("of a kept one", x.keep(4, 0), 6);
        due("an eighth", x.keep(2, 2), 7);
        due("a ninth", x.keep(2, 2), -1);
        due("made", x.count(3), 8);
        due("undo", x.undo(), true);
        due("again", x.keep(0, 0), 7);
        due("its made", x.braid(7, 2), 8);
        x.cross(0, 1);
        due("a kept one stays as it is", x.braid(4, 1), 2);
        ChainIndex y = Check.told("braid a 0;");
        for (int other : new int[] {-1, 1, 8, FAR, DEEP}) {
            due("keep of " + other, y.keep(other, 0), -1);
            due("keep with " + other, y.keep(0, other), -1);
        }
        due("none was made", y.count(3), 1);
    }

    private static void promise14Undo() {
        ChainIndex x = Check.told(TOLD);
        due("nothing", x.undo(), false);
        x.append(1, 9);
        x.turn(1);
        x.cut(1);
        x.cross(0, 1);
        x.keep(0, 1);
        x.see(1, 2, true);
        due("five", x.count(6), 5);
        due("undo keep", x.undo(), true);
        due("braids", x.count(1), 4);
        due("made stays", x.count(3), 5);
        due("undo cross", x.undo(), true);
        due("ends", x.ends(0, 2), 2);
        due("undo cut", x.undo(), true);
        due("item", x.item(1, 3), 2);
        due("undo turn", x.undo(), true);
        due("item", x.item(1, 0), 2);
        due("item", x.item(1, 3), 9);
        due("undo append", x.undo(), true);
        due("many", x.row(1, 1), 3);
        due("nothing is left", x.undo(), false);
        due("what is seen stays", x.count(5), 1);
        ChainIndex y = Check.told("row a weak 0;");
        for (int i = 1; i <= 18; i++) {
            y.append(0, i);
        }
        due("sixteen", y.count(6), 16);
        for (int i = 0; i < 16; i++) {
            due("undo", y.undo(), true);
        }
        due("no seventeenth", y.undo(), false);
        due("two stay", y.row(0, 1), 3);
        due("the first two", y.item(0, 2), 2);
        ChainIndex z = Check.told("row a weak 0 1; row b weak 5 6 7; braid c 0 1 2;");
        for (int i = 0; i < 5; i++) {
            z.append(0, 50 + i);
            z.cut(1);
            z.turn(1);
            z.append(1, 60 + i);
            z.cross(0, i % 2);
        }
        due("sixteen of 23", z.count(6), 16);
        int often = 0;
        while (often < 20 && z.undo()) {
            often++;
        }
        due("sixteen times", often, 16);
        due("row a", z.row(0, 1), 4);
        due("row a", z.item(0, 3), 51);
        due("row b", z.row(1, 1), 2);
        due("row b", z.item(1, 0), 6);
        due("row b", z.item(1, 1), 5);
        due("braid c", z.braid(0, 1), 1);
    }

    private static void promise15Judged() {
        ChainIndex x = Check.told(TOLD);
        due("no work: line", x.judged(0), -1);
        due("no work: numbers", x.judged(1), 19);
        due("no work: braids", x.judged(2), 4);
        Check.work(x, "append r 7; cut s; cut s; cut s; turn r; cross x 1; cross x 1; keep x y; keep x w; cut s;");
        due("line", x.judged(0), 3);
        due("numbers", x.judged(1), 18);
        due("braids", x.judged(2), 5);
        x.append(1, 1);
        x.append(1, 1);
        x.keep(0, 0);
        due("from the index as told: line", x.judged(0), 3);
        due("from the index as told: numbers", x.judged(1), 18);
        due("from the index as told: braids", x.judged(2), 5);
        Check.work(x, times("keep x x;", 4));
        due("up to eight", x.judged(0), -1);
        Check.work(x, times("keep x x;", 5));
        due("a ninth", x.judged(0), 4);
        due("eight", x.judged(2), 8);
        Check.work(x, "cross x 0;");
        due("crossed already", x.judged(0), 0);
        Check.work(x, "turn r; cross x 2;");
        due("no strand there", x.judged(0), 1);
        Check.work(x, times("append r 1;", 13));
        due("a 21st", x.judged(0), 12);
        due("numbers", x.judged(1), 31);
        for (int other : new int[] {-1, 3, FAR, DEEP}) {
            due("judged " + other, x.judged(other), -2);
        }
    }

    private static void windowsOnly(String call, int[] answers) {
        for (int answer : answers) {
            due(call + " of no window", answer, -1);
        }
    }

    private static void promise16Chain() {
        ChainIndex x = Check.told(TOLD);
        due("strict", x.chain(0, 0, 8), 4);
        due("strict 3..8", x.chain(0, 3, 8), 3);
        due("strict 1..4", x.chain(0, 1, 4), 2);
        due("weak", x.chain(1, 0, 3), 2);
        due("down", x.chain(2, 0, 4), 3);
        due("sink", x.chain(3, 0, 4), 4);
        due("of no places", x.chain(0, 8, 8), 0);
        ChainIndex y = Check.told("row a strict 5 5; row b weak 5 5; row c down 5 5; row d sink 5 5;");
        due("strict 5 5", y.chain(0, 0, 2), 1);
        due("weak 5 5", y.chain(1, 0, 2), 2);
        due("down 5 5", y.chain(2, 0, 2), 1);
        due("sink 5 5", y.chain(3, 0, 2), 2);
        ChainIndex z = Check.told("row a strict 1 2 3; weighs 0 - number;");
        due("by weights", z.chain(0, 0, 3), 1);
        windowsOnly("chain", new int[] {x.chain(0, -1, 2), x.chain(0, 3, 2), x.chain(0, 0, 9), x.chain(4, 0, 0),
            x.chain(-1, 0, 0), x.chain(0, DEEP, FAR), x.chain(0, FAR, FAR), x.chain(FAR, 0, 0), x.chain(0, 9, 9)});
    }

    private static void promise17Pick() {
        ChainIndex x = Check.told(TOLD);
        int[] places = {0, 2, 4, 5, -1};
        for (int i = 0; i < places.length; i++) {
            due("pick " + i, x.pick(0, 0, 8, i), places[i]);
        }
        due("pick in a window", x.pick(0, 3, 8, 0), 3);
        due("pick in a window", x.pick(0, 3, 8, 2), 5);
        due("pick -1", x.pick(0, 0, 8, -1), -1);
        due("pick far", x.pick(0, 0, 8, FAR), -1);
        due("pick of no places", x.pick(0, 2, 2, 0), -1);
        ChainIndex y = Check.told("row a strict 5 1 6 2 3;");
        due("not the first place, if it is on none", y.pick(0, 0, 5, 0), 1);
        due("then", y.pick(0, 0, 5, 1), 3);
        due("then", y.pick(0, 0, 5, 2), 4);
        ChainIndex z = Check.told("row a strict 4 1 2 5 3 6;");
        int[] chain = {1, 2, 3, 5};
        for (int i = 0; i < chain.length; i++) {
            due("each follows the one ahead", z.pick(0, 0, 6, i), chain[i]);
        }
        ChainIndex t = Check.told("row a strict 3 4 1 2;");
        due("the first place", t.pick(0, 0, 4, 0), 0);
        due("what follows it", t.pick(0, 0, 4, 1), 1);
        ChainIndex u = Check.told("row a strict 5 1 6 2;");
        due("the first place", u.pick(0, 0, 4, 0), 0);
        due("what follows it", u.pick(0, 0, 4, 1), 2);
        ChainIndex v = Check.told("row a strict 5 1 2 6;");
        due("no place that may not follow", v.pick(0, 0, 4, 0), 1);
        ChainIndex w = Check.told("row a strict 2 1 3 0 9;");
        due("what follows", w.pick(0, 0, 5, 1), 2);
        ChainIndex q = Check.told("row a strict 5 2 6;");
        due("a place ahead that may not follow", q.pick(0, 0, 3, 1), 2);
        ChainIndex p = Check.told("row a strict 5 6 1 7 8 2 9;");
        due("no place that may not follow", p.pick(0, 0, 7, 2), 3);
        windowsOnly("pick", new int[] {x.pick(0, -1, 2, 0), x.pick(0, 3, 2, 0), x.pick(0, 0, 9, 0), x.pick(4, 0, 1, 0)});
    }

    private static void promise18Ways() {
        ChainIndex x = Check.told(TOLD);
        due("ways", x.ways(0, 0, 8), 4);
        due("ways 3..8", x.ways(0, 3, 8), 3);
        due("ways sink", x.ways(3, 0, 4), 1);
        due("ways down", x.ways(2, 0, 4), 2);
        due("of no places", x.ways(0, 2, 2), 1);
        ChainIndex y = Check.told("row a strict 2 1 0 5 4 3 8 7 6 11 10 9 14 13 12 17 16 15 19 18;");
        due("many ways", y.ways(0, 0, 20), 1458);
        windowsOnly("ways", new int[] {x.ways(0, -1, 2), x.ways(0, 3, 2), x.ways(0, 0, 9), x.ways(4, 0, 0)});
    }

    private static void promise19Must() {
        ChainIndex x = Check.told(TOLD);
        due("must", x.must(0, 0, 8), 20);
        due("must of no places", x.must(0, 2, 2), 0);
        due("must of one", x.must(0, 7, 8), 128);
        due("must down", x.must(2, 0, 4), 9);
        due("must sink", x.must(3, 0, 4), 15);
        windowsOnly("must", new int[] {x.must(0, -1, 2), x.must(0, 3, 2), x.must(0, 0, 9), x.must(4, 0, 0)});
    }

    private static void promise20May() {
        ChainIndex x = Check.told(TOLD);
        due("may", x.may(0, 0, 8), 183);
        due("may of no places", x.may(0, 2, 2), 0);
        due("may down", x.may(2, 0, 4), 15);
        due("may 3..8", x.may(0, 3, 8), 8 + 16 + 32 + 64 + 128);
        windowsOnly("may", new int[] {x.may(0, -1, 2), x.may(0, 3, 2), x.may(0, 0, 9), x.may(4, 0, 0)});
    }

    private static void promise21Bare() {
        ChainIndex x = Check.told(TOLD);
        due("bare", x.bare(0, 0, 8), 4);
        due("bare 3..8", x.bare(0, 3, 8), 2);
        due("bare of no places", x.bare(0, 2, 2), 0);
        due("bare sink", x.bare(3, 0, 4), 0);
        windowsOnly("bare", new int[] {x.bare(0, -1, 2), x.bare(0, 3, 2), x.bare(0, 0, 9), x.bare(4, 0, 0)});
    }

    private static void promise22Strand() {
        ChainIndex x = Check.told(TOLD);
        due("strand", x.strand(1, 0), 1);
        due("it has none", x.strand(1, 1), -1);
        due("it has none", x.strand(1, 2), -1);
        due("down", x.strand(2, 1), 2);
        due("sink has none", x.strand(3, 1), -1);
        int have = 0;
        for (int place = 0; place < 8; place++) {
            int end = x.strand(0, place);
            if (end != -1) {
                have++;
                due("a strand ends behind", end > place, true);
                due("unit", x.bare(0, place, end + 1) - x.bare(0, place + 1, end + 1) - x.bare(0, place, end)
                        + x.bare(0, place + 1, end), 1);
            }
        }
        due("as many as all leave", have, 4);
        due("place 8", x.strand(0, 8), -1);
        due("place -1", x.strand(0, -1), -1);
        due("place far", x.strand(0, FAR), -1);
        due("place deep", x.strand(0, DEEP), -1);
        due("row 4", x.strand(4, 0), -1);
    }

    private static void promise23Under() {
        ChainIndex x = Check.told(TOLD);
        for (int from = 0; from <= 8; from++) {
            for (int to = from; to <= 8; to++) {
                due("under is bare", x.under(0, from, to), x.bare(0, from, to));
            }
        }
        due("under", x.under(1, 0, 2), 1);
        due("under", x.under(1, 1, 3), 0);
        windowsOnly("under", new int[] {x.under(0, -1, 2), x.under(0, 3, 2), x.under(0, 0, 9), x.under(4, 0, 0)});
    }

    private static void promise24How() {
        ChainIndex x = Check.told(TOLD);
        int[] many = {4, 4, 2, 0};
        for (int length = 0; length < many.length; length++) {
            due("how " + length, x.how(1, length), many[length]);
        }
        int all = 0;
        for (int length = 0; length <= 20; length++) {
            all += x.how(0, length);
        }
        due("all windows", all, 45);
        due("how 20", x.how(0, 20), 0);
        due("how 21", x.how(0, 21), -1);
        due("how -1", x.how(0, -1), -1);
        due("row 4", x.how(4, 0), -1);
        ChainIndex y = Check.told("row a weak" + times(" 1", 20) + ";");
        due("a chain of 20", y.how(0, 20), 1);
    }

    private static void promise25Best() {
        ChainIndex x = Check.told(TOLD);
        due("best 2", x.best(1, 2), 1);
        due("best 0", x.best(1, 0), 0);
        due("best of all", x.best(1, 3), 0);
        due("best 4", x.best(1, 4), -1);
        due("best -1", x.best(1, -1), -1);
        due("the first of equal ones", x.best(0, 2), 1);
        due("best 3", x.best(0, 3), 3);
        due("row 4", x.best(4, 0), -1);
        due("width far", x.best(0, FAR), -1);
    }

    private static void promise26Near() {
        ChainIndex x = Check.told(TOLD);
        due("near 2", x.near(1, 2), 35);
        due("near 3", x.near(1, 3), -1);
        due("near 0", x.near(1, 0), 0);
        due("near 1", x.near(1, 1), 1);
        due("the narrowest", x.near(0, 3), 32 * 3 + 6);
        due("near 4", x.near(0, 4), 32 * 1 + 6);
        due("near 20", x.near(0, 20), -1);
        due("all of a row", Check.told("row a strict 1 2 3;").near(0, 3), 3);
        due("all of twenty", Check.told("row a weak" + times(" 1", 20) + ";").near(0, 20), 20);
        due("near 21", x.near(0, 21), -1);
        due("near -1", x.near(0, -1), -1);
        due("row 4", x.near(4, 0), -1);
    }

    private static void promise27Piles() {
        ChainIndex x = Check.told(TOLD);
        due("piles", x.piles(0, 0, 8, -1), 4);
        int[] on = {0, 0, 1, 0, 2, 3, 1, 3};
        for (int place = 0; place < on.length; place++) {
            due("pile of " + place, x.piles(0, 0, 8, place), on[place]);
        }
        due("pile in a window", x.piles(0, 4, 8, 6), 0);
        due("piles down", x.piles(2, 0, 4, -1), 3);
        due("pile down", x.piles(2, 0, 4, 2), 1);
        due("piles sink", x.piles(3, 0, 4, -1), 4);
        due("of no places", x.piles(0, 2, 2, -1), 0);
        due("not in it", x.piles(0, 2, 2, 2), -2);
        due("not in it", x.piles(0, 0, 4, 4), -2);
        due("not in it", x.piles(0, 2, 4, 1), -2);
        due("place -2", x.piles(0, 0, 4, -2), -2);
        due("place far", x.piles(0, 0, 4, FAR), -2);
        due("no window", x.piles(0, 3, 2, -1), -2);
        due("no window", x.piles(0, -1, 2, -1), -2);
        due("no window", x.piles(0, 0, 9, -1), -2);
        due("row 4", x.piles(4, 0, 0, -1), -2);
    }

    private static void promise28Shape() {
        ChainIndex x = Check.told(TOLD);
        int[] sizes = {4, 3, 1, 0};
        for (int i = 0; i < sizes.length; i++) {
            due("shape " + i, x.shape(0, 0, 8, i), sizes[i]);
        }
        due("shape of no places", x.shape(0, 2, 2, 0), 0);
        due("down", x.shape(2, 0, 4, 0), 3);
        due("down", x.shape(2, 0, 4, 1), 1);
        due("sink", x.shape(3, 0, 4, 0), 4);
        ChainIndex z = Check.told("row a strict 2 3 1 4 0;");
        int[] rows = {3, 1, 1, 0};
        for (int i = 0; i < rows.length; i++) {
            due("what is put out goes on", z.shape(0, 0, 5, i), rows[i]);
        }
        ChainIndex t = Check.told("row a strict 4 1 5 2;");
        due("what is put out goes on", t.shape(0, 0, 4, 0), 2);
        due("behind the ones it follows", t.shape(0, 0, 4, 1), 2);
        ChainIndex y = Check.told("row a strict" + times(" 1", 20) + ";");
        due("a column", y.shape(0, 0, 20, 19), 1);
        due("behind it", y.shape(0, 0, 20, 20), 0);
        due("shape 21", x.shape(0, 0, 8, 21), -1);
        due("shape -1", x.shape(0, 0, 8, -1), -1);
        windowsOnly("shape", new int[] {x.shape(0, -1, 2, 0), x.shape(0, 3, 2, 0), x.shape(0, 0, 9, 0), x.shape(4, 0, 0, 0)});
    }

    private static void promise29Ends() {
        ChainIndex x = Check.told(TOLD);
        int[] ends = {3, 1, 0, 2, -1};
        for (int strand = 0; strand < ends.length; strand++) {
            due("ends " + strand, x.ends(3, strand), ends[strand]);
        }
        due("strand -1", x.ends(3, -1), -1);
        due("strand far", x.ends(3, FAR), -1);
        for (int other : OTHERS) {
            due("braid " + other, x.ends(other, 0), -1);
        }
    }

    private static void promise30Counts() {
        ChainIndex x = Check.told(TOLD);
        due("counts", x.counts(0, 0, 1), 1);
        due("counts", x.counts(0, 1, 2), 1);
        due("counts", x.counts(3, 1, 2), 2);
        due("counts", x.counts(3, 0, 4), 4);
        due("counts at the end", x.counts(3, 4, 4), 0);
        due("counts at the start", x.counts(3, 0, 0), 0);
        due("i 5", x.counts(3, 5, 0), -1);
        due("k 5", x.counts(3, 0, 5), -1);
        due("i -1", x.counts(3, -1, 0), -1);
        due("k -1", x.counts(3, 0, -1), -1);
        for (int other : OTHERS) {
            due("braid " + other, x.counts(other, 0, 0), -1);
        }
    }

    private static void promise31Compose() {
        ChainIndex x = Check.told(TOLD);
        int[][] ends = {{2, 0, 1}, {1, 2, 0}, {1, 0, 2}};
        for (int strand = 0; strand < 3; strand++) {
            due("x y", x.compose(0, 1, strand), ends[0][strand]);
            due("y x", x.compose(1, 0, strand), ends[1][strand]);
            due("x x", x.compose(0, 0, strand), ends[2][strand]);
            due("z y", x.compose(2, 1, strand), 2 - strand);
        }
        due("strand 3", x.compose(0, 1, 3), -1);
        due("strand -1", x.compose(0, 1, -1), -1);
        due("not as many", x.compose(0, 3, 0), -1);
        due("not as many", x.compose(3, 0, 0), -1);
        for (int other : OTHERS) {
            due("braid " + other, x.compose(other, 0, 0), -1);
            due("other " + other, x.compose(0, other, 0), -1);
        }
        ChainIndex y = Check.told("braid a 3 1 4 0 5 2; braid b 2 5 1 0 4 3;");
        int kept = y.keep(0, 1);
        int[][] first = countsOf(y, 0, 6);
        int[][] second = countsOf(y, 1, 6);
        int[][] both = countsOf(y, kept, 6);
        for (int i = 0; i <= 6; i++) {
            for (int k = 0; k <= 6; k++) {
                int least = 99;
                for (int j = 0; j <= 6; j++) least = Math.min(least, first[i][j] + second[j][k]);
                due("the least of the counts", both[i][k], least);
            }
        }
    }

    private static int[][] countsOf(ChainIndex x, int braid, int strands) {
        int[][] counts = new int[strands + 1][strands + 1];
        for (int i = 0; i <= strands; i++) {
            for (int k = 0; k <= strands; k++) counts[i][k] = x.counts(braid, i, k);
        }
        return counts;
    }

    private static void promise32Power() {
        ChainIndex x = Check.told("braid c 1 2 3 0; braid s 1 0;");
        int[][] ends = {{1, 2, 3, 0}, {2, 3, 1, 0}, {3, 2, 1, 0}};
        for (int often = 1; often <= 3; often++) {
            for (int strand = 0; strand < 4; strand++) {
                due("power " + often, x.power(0, often, strand), ends[often - 1][strand]);
            }
        }
        due("power 20", x.power(0, 20, 1), 2);
        due("power 20", x.power(1, 20, 0), 1);
        due("power 0", x.power(0, 0, 0), -1);
        due("power 21", x.power(0, 21, 0), -1);
        due("power far", x.power(0, FAR, 0), -1);
        due("strand 4", x.power(0, 1, 4), -1);
        due("strand -1", x.power(0, 1, -1), -1);
        for (int other : OTHERS) {
            due("braid " + other, x.power(other, 1, 0), -1);
        }
    }

    private static void promise33Settles() {
        ChainIndex x = Check.told("braid c 1 2 3 0; braid s 1 0; braid i 0 1 2; braid d 1 2 3 4 5 6 7 8 9 0;");
        due("settles", x.settles(0), 3);
        due("settles", x.settles(1), 1);
        due("settles", x.settles(2), 1);
        due("settles", x.settles(3), 9);
        for (int other : OTHERS) {
            due("braid " + other, x.settles(other), -1);
        }
    }

    private static void promise34Knit() {
        ChainIndex x = Check.told(TOLD);
        int[] places = {0, 1, 0, -1};
        for (int i = 0; i < places.length; i++) {
            due("knit z " + i, x.knit(2, i), places[i]);
        }
        int[] others = {0, 1, 0, 2, -1};
        for (int i = 0; i < others.length; i++) {
            due("knit w " + i, x.knit(3, i), others[i]);
        }
        due("knit -1", x.knit(2, -1), -1);
        due("knit far", x.knit(2, FAR), -1);
        ChainIndex y = Check.told("braid d 9 8 7 6 5 4 3 2 1 0; braid one 0;");
        due("knit 44", y.knit(0, 44), 0);
        due("knit 45", y.knit(0, 45), -1);
        due("knit of one strand", y.knit(1, 0), -1);
        for (int other : OTHERS) {
            due("braid " + other, x.knit(other, 0), -1);
        }
    }

    private static void promise35Below() {
        ChainIndex x = Check.told(TOLD);
        due("x z", x.below(0, 2), true);
        due("z x", x.below(2, 0), false);
        due("x y", x.below(0, 1), false);
        due("x x", x.below(0, 0), true);
        due("not as many", x.below(0, 3), false);
        due("not as many", x.below(3, 0), false);
        for (int other : OTHERS) {
            due("braid " + other, x.below(other, 0), false);
            due("other " + other, x.below(0, other), false);
            due("both " + other, x.below(other, other), false);
        }
    }

    private static void promise36Common() {
        ChainIndex x = Check.told(TOLD);
        due("common", x.common(0, 1, 0, 3), 1);
        due("common", x.common(2, 3, 0, 4), 4);
        due("common", x.common(2, 3, 1, 3), 2);
        due("common", x.common(0, 2, 0, 4), 2);
        due("with itself", x.common(0, 0, 2, 5), 3);
        due("of no places", x.common(0, 0, 8, 8), 0);
        due("of twenty", Check.told("row a strict" + times(" 7", 20) + ";").common(0, 0, 0, 20), 20);
        ChainIndex y = Check.told("row a strict 1 2 3; row b weak 3 2 1; weighs number - place;");
        due("by weights", y.common(0, 1, 0, 3), 1);
        due("each once", Check.told("row a weak 1; row b weak 1 1;").common(0, 1, 0, 2), 1);
        windowsOnly("common", new int[] {x.common(0, 0, -1, 2), x.common(0, 0, 3, 2), x.common(0, 0, 0, 9),
            x.common(4, 0, 0, 0), x.common(0, 4, 0, 0), x.common(-1, 0, 0, 0), x.common(0, -1, 0, 0), x.common(0, 1, 0, 4)});
    }

    private static void promise37Meets() {
        ChainIndex x = Check.told(TOLD);
        due("meets", x.meets(0, 1, 0), 1);
        due("meets", x.meets(0, 1, 1), 2);
        due("meets none", x.meets(0, 1, 2), -1);
        due("with itself", x.meets(0, 0, 0), -1);
        ChainIndex y = Check.told("row a strict 7; row b weak 1 7 7;");
        due("what is in none ends at once", y.meets(0, 1, 0), 0);
        due("meets", y.meets(0, 1, 1), 2);
        due("place 3", y.meets(0, 1, 3), -1);
        due("place -1", y.meets(0, 1, -1), -1);
        for (int other : OTHERS) {
            due("row " + other, y.meets(other, 1, 0), -1);
            due("other " + other, y.meets(0, other, 0), -1);
        }
    }

    private static void promise38See() {
        ChainIndex x = Check.told(TOLD);
        due("length 0", x.see(0, 0, true), false);
        due("length 21", x.see(0, 21, true), false);
        due("row 4", x.see(4, 1, true), false);
        due("row -1", x.see(-1, 1, true), false);
        due("none is seen", x.count(5), 0);
        due("length 1", x.see(0, 1, true), true);
        due("length 20", x.see(0, 20, false), true);
        for (int i = 3; i <= 8; i++) {
            due("see", x.see(i % 4, 2, true), true);
        }
        due("a ninth", x.see(1, 2, true), false);
        due("eight", x.count(5), 8);
        due("it is no change by hand", x.count(6), 0);
    }

    private static void promise39Fits() {
        ChainIndex x = Check.told(TOLD);
        due("all", x.fits(0), 36);
        due("all", x.fits(1), 6);
        x.see(1, 2, true);
        due("or more", x.fits(1), 2);
        due("not of another", x.fits(0), 36);
        x.see(1, 2, false);
        due("none", x.fits(1), 0);
        x.see(0, 2, false);
        due("less", x.fits(0), x.how(0, 1));
        x.see(2, 3, true);
        due("down", x.fits(2), 1);
        x.append(2, 0);
        due("the row as it is", x.fits(2), 4);
        for (int other : OTHERS) {
            due("row " + other, x.fits(other), -1);
        }
    }

    private static void promise40First() {
        ChainIndex x = Check.told(TOLD);
        due("first", x.first(1), 1);
        x.see(1, 2, true);
        due("first", x.first(1), 3);
        x.see(0, 3, true);
        x.see(0, 4, false);
        due("i, then j", x.first(0), 5);
        x.see(1, 2, false);
        due("none", x.first(1), -1);
        for (int other : OTHERS) {
            due("row " + other, x.first(other), -1);
        }
    }

    private static void promise41Ask() {
        ChainIndex x = Check.told(TOLD);
        due("ask", x.ask(1), 2);
        x.see(1, 2, true);
        due("none parts them", x.ask(1), -1);
        x.see(1, 2, false);
        due("of none", x.ask(1), -1);
        due("one place", Check.told("row a weak 1;").ask(0), -1);
        due("three of LONG 1, two of 2, one of 3", Check.told("row a weak 1 2 3;").ask(0), 2);
        ChainIndex y = Check.told("row a strict 1 2 3 4 5 6;");
        due("lengths 6 5 4 3 2 1", y.ask(0), 3);
        due("again", y.ask(0), 3);
        ChainIndex z = Check.told("row a weak" + times(" 1", 20) + ";");
        z.see(0, 19, true);
        due("three windows", z.fits(0), 3);
        due("the longest", z.ask(0), 20);
        for (int other : OTHERS) {
            due("row " + other, x.ask(other), -1);
        }
    }

    private static void promise42Drawn() {
        ChainIndex x = new ChainIndex();
        due("long", x.drawn(5, 6, 10, 0), 3);
        due("ways", x.drawn(5, 6, 10, 1), 1);
        due("strands", x.drawn(5, 6, 10, 2), 3);
        due("long", x.drawn(7, 4, 4, 0), 2);
        due("ways", x.drawn(7, 4, 4, 1), 3);
        due("all alike", x.drawn(9999, 20, 1, 1), 20);
        due("edges", x.drawn(0, 1, 100, 0), 1);
        Check.index(x, "weighs place;");
        due("by weighs", x.drawn(5, 6, 10, 0), 6);
        due("nothing changes", x.count(0), 0);
        Check.index(x, "weighs number + kind * 100 + (many = 6) * place * 100;");
        due("strict, of so many", x.drawn(5, 6, 10, 0), 6);
        int[][] others = {{-1, 1, 1, 0}, {10000, 1, 1, 0}, {0, 0, 1, 0}, {0, 21, 1, 0}, {0, 1, 0, 0}, {0, 1, 101, 0},
            {0, 1, 1, -1}, {0, 1, 1, 3}, {DEEP, 1, 1, 0}, {0, FAR, 1, 0}, {0, 1, DEEP, 0}, {0, 1, 1, FAR}};
        for (int[] o : others) {
            due("drawn of others", x.drawn(o[0], o[1], o[2], o[3]), -1);
        }
    }

    private static void promise43Mark() {
        ChainIndex x = Check.told(TOLD);
        due("nothing is on it", x.mark(0, true), false);
        x.see(0, 1, true);
        due("laid", x.mark(0, false), true);
        x.append(1, 5);
        x.keep(0, 1);
        x.cross(0, 1);
        x.see(0, 2, true);
        due("laid", x.mark(3, false), true);
        due("what can be undone stays", x.count(6), 3);
        due("back", x.mark(0, true), true);
        due("rows", x.row(1, 1), 3);
        due("braids", x.count(1), 4);
        due("ends", x.ends(0, 2), 2);
        due("seen", x.count(5), 1);
        due("made stays", x.count(3), 5);
        due("what was seen", x.fits(0), 36);
        due("nothing can be undone", x.undo(), false);
        due("on", x.mark(3, true), true);
        due("rows", x.item(1, 3), 5);
        due("braids", x.count(1), 5);
        due("made of it", x.braid(4, 2), 4);
        due("what was seen", x.fits(0), 36 - x.how(0, 1));
        due("seen", x.count(5), 2);
        due("again", x.mark(0, true), true);
        due("rows", x.row(1, 1), 3);
        x.turn(1);
        due("laid anew", x.mark(0, false), true);
        x.turn(1);
        due("back", x.mark(0, true), true);
        due("the newer one", x.item(1, 0), 3);
        for (int other : new int[] {-1, 4, FAR, DEEP}) {
            due("mark " + other, x.mark(other, false), false);
            due("mark " + other, x.mark(other, true), false);
        }
        due("none on 1", x.mark(1, true), false);
        ChainIndex z = Check.told("row a weak 1 1; row b weak 1 1;");
        z.mark(0, false);
        z.see(0, 2, true);
        z.mark(1, false);
        z.mark(0, true);
        z.see(1, 2, false);
        due("seen of b", z.fits(1), 2);
        z.mark(1, true);
        due("seen of a", z.fits(0), 1);
        due("not of b", z.fits(1), 3);
        z.mark(0, true);
        z.see(0, 1, false);
        z.mark(1, true);
        due("2 or more, not less than 1", z.fits(0), 1);
        ChainIndex y = new ChainIndex();
        due("of nothing", y.mark(1, false), true);
        due("to nothing", y.mark(1, true), true);
    }

    private static void promise44Count() {
        ChainIndex x = Check.told(TOLD);
        x.keep(0, 0);
        x.undo();
        x.keep(0, 0);
        x.cut(0);
        x.see(0, 1, true);
        Check.work(x, "cut r; turn r; turn s;");
        Check.feed(x, "ab");
        int[] many = {4, 5, 18, 6, 3, 1, 2, 2};
        for (int what = 0; what < many.length; what++) {
            due("count " + what, x.count(what), many[what]);
        }
        for (int other : new int[] {-1, 8, FAR, DEEP}) {
            due("count " + other, x.count(other), -1);
        }
        due("the constant", ChainIndex.NONE, -1);
    }

    public static void main(String[] args) {
        promise1NewObject();
        promise2Feed();
        promise3Index();
        promise4Work();
        promise5Row();
        promise6Item();
        promise7Weight();
        promise8Braid();
        promise9Append();
        promise10Cut();
        promise11Turn();
        promise12Cross();
        promise13Keep();
        promise14Undo();
        promise15Judged();
        promise16Chain();
        promise17Pick();
        promise18Ways();
        promise19Must();
        promise20May();
        promise21Bare();
        promise22Strand();
        promise23Under();
        promise24How();
        promise25Best();
        promise26Near();
        promise27Piles();
        promise28Shape();
        promise29Ends();
        promise30Counts();
        promise31Compose();
        promise32Power();
        promise33Settles();
        promise34Knit();
        promise35Below();
        promise36Common();
        promise37Meets();
        promise38See();
        promise39Fits();
        promise40First();
        promise41Ask();
        promise42Drawn();
        promise43Mark();
        promise44Count();
        CHECK.end();
    }
}
