/** Promise by promise: ordinary inputs, edges, wrong inputs; what is due was worked out by hand. */
public final class PromiseTest {
    private static final int BAD = -1, STATE = -2, FULL = -3, NONE = -9, NO = -1000000;

    private static final Check CHECK = new Check("PromiseTest");

    /** Heights 5 4 5, 3 9 3, 2 drain 2: all water but that of cell 1 goes to the drain, 9. */
    private static final String BASIN = "w3;r5 4 5;r3 9 3;r2 0 2;d1 2;";
    private static final String FLAT = "w4;r0 0 0 0;r0 0 0 0;r0 0 0 0;r0 0 0 0;s20 20 20 20;";

    public static void main(String[] args) {
        promise1New();
        promise2Type();
        promise3Clear();
        promise4Yard();
        promise4Faults();
        promise5Cell();
        promise6Lays();
        promise7Lifts();
        promise8Raises();
        promise9Day();
        promise10Undo();
        promise11Now();
        promise12Stock();
        promise13Drop();
        promise14Feeds();
        promise15Mend();
        promise16Plan();
        promise17Barrow();
        promise18Odds();
        promise19Saw();
        promise20Forget();
        promise21From();
        promise22Mark();
        promise23Keep();
        promise24Back();
        promise25Count();
        promise26Trace();
        CHECK.end();
    }

    private static void due(String call, long got, long want) {
        CHECK.due(call, got, want);
    }

    private static void promise1New() {
        SlabYard y = new SlabYard();
        for (int what = 0; what <= 7; what++) {
            due("new: now " + what, y.now(what), 0);
        }
        for (int what = 0; what <= 5; what++) {
            due("new: count " + what, y.count(what), 0);
        }
        for (int size = 0; size < 4; size++) {
            due("new: stock " + size, y.stock(size), 4);
        }
        due("new: cell", y.cell(0, 0, 0), BAD);
        due("new: lays", y.lays(3, 0, 0), BAD);
        due("new: trace", y.trace(), 0);
        due("new: undo", y.undo(), STATE);
        due("new: back", y.back(0), STATE);
        due("new: yard", y.yard(), 0);
    }

    private static void promise2Type() {
        SlabYard y = new SlabYard();
        due("type -1", y.type(-1), BAD);
        due("type 256", y.type(256), BAD);
        due("type 0", y.type(0), 1);
        due("type 255", y.type(255), 2);
        for (int bytes = 3; bytes <= 150; bytes++) {
            due("type up to 150", y.type(32), bytes);
        }
        due("type when full", y.type(32), FULL);
        due("type bad when full", y.type(256), BAD);
        due("bytes", y.count(5), 150);
    }

    private static void promise3Clear() {
        SlabYard y = new SlabYard();
        due("clear empty", y.clear(), 0);
        Check.type(y, "w3;");
        due("clear", y.clear(), 3);
        due("clear again", y.clear(), 0);
        due("yard after clear", y.yard(), 0);
        due("wide after clear", y.count(0), 0);
        due("type after clear", y.type('w'), 1);
    }

    private static void promise4Yard() {
        SlabYard y = Check.told("w2;r1 2;r3 4;r5 6;l1 0;d0 1;o1 2;s0 1 2 20;");
        due("text is empty then", y.count(5), 0);
        due("wide", y.count(0), 2);
        due("rows", y.count(1), 3);
        due("door", y.count(2), 9);
        due("stock 0", y.stock(0), 0);
        due("stock 3", y.stock(3), 20);
        due("height", y.cell(1, 1, 0), 4);
        y.lays(3, 0, 0);
        y.saw(0, 0);
        y.day();
        y.keep(0);
        y.mark(0, 0, 0);
        Check.type(y, "w2;r9 9;x");
        due("fault", y.yard(), -18);
        due("text stays", y.count(5), 9);
        due("wide stays", y.count(0), 2);
        due("rows stay", y.count(1), 3);
        due("heights stay", y.cell(0, 0, 0), 1);
        due("slabs stay", y.now(2), 1);
        due("seen stays", y.count(3), 1);
        due("what may be undone stays", y.count(4), 2);
        due("image stays", y.back(0), 1);
        y.clear();
        Check.type(y, " w1 ;r 7; ");
        due("read anew", y.yard(), 2);
        due("then wide", y.count(0), 1);
        due("then rows", y.count(1), 1);
        due("then door", y.count(2), 0);
        due("then stock 0", y.stock(0), 4);
        due("then stock 3", y.stock(3), 4);
        due("then height", y.cell(0, 0, 0), 7);
        due("then no lid", y.cell(0, 0, 1), 0);
        due("then no slabs", y.now(2), 0);
        due("then days", y.now(0), 0);
        due("then seen", y.count(3), 0);
        due("then undone", y.undo(), STATE);
        due("then image", y.back(0), STATE);
        due("trace stays", y.trace(), 1);
        due("empty text", y.yard(), 0);
        due("no cells then", y.count(0), 0);
        due("no rows then", y.count(1), 0);
    }

    private static void reads(String text, int want) {
        SlabYard y = new SlabYard();
        Check.type(y, text);
        due("yard of '" + text + "'", y.yard(), want);
        due("bytes after '" + text + "'", y.count(5), want < 0 ? text.length() : 0);
    }

    private static void promise4Faults() {
        reads("", 0);
        reads("   ", 0);
        reads("w", -11);
        reads("w4", -12);
        reads("w4  ", -14);
        reads("w4;", 1);
        reads("  w  4  ;  ", 1);
        reads(";", -10);
        reads("4;", -10);
        reads("x1;", -10);
        reads("ww4;", -10);
        reads("W4;", -10);
        reads("  \t", -12);
        reads("w;", -11);
        reads("ww", -10);
        reads("w0;", -11);
        reads("w5;", -11);
        reads("w04;", -11);
        reads("w00;", -11);
        reads("w 100;", -12);
        reads("w4294967297;", -11);
        reads("w4 4;", -13);
        reads("w4x;", -12);
        reads("w4,", -12);
        reads("w4\u00e9", -12);
        reads("w4;;", -13);
        reads("w4;w4;", -13);
        reads("r1;w1;", -10);
        reads("l0 0;", -10);
        reads("d0 0;", -10);
        reads("o0 0;", -10);
        reads("s1 1 1 1;w2;", -19);
        reads("s1 1 1 1;r1;", -19);
        reads("s1 1 1 1;", 1);
        reads("s1 1 1 1;s1 1 1 1;", -19);
        reads("w2;s1 1 1 1;r1 1;s0 0 0 0;", -27);
        reads("w2;s1 1 1 1;r1 1;", 3);
        reads("w2;r1;", -15);
        reads("w2;r1 2 3;", -18);
        reads("w2;r1 10;", -16);
        reads("w2;r1 09;", -16);
        reads("w2;r9 0;", 2);
        reads("w1;r1;r2;r3;r4;", 5);
        reads("w1;r1;r2;r3;r4;r5;", -25);
        reads("w2;r1 1;l0 0;r1 1;", -23);
        reads("w2;r1 1;d0 0;r1 1;", -23);
        reads("w2;r1 1;o0 0;r1 1;", -23);
        reads("w1;l0 0;", -16);
        reads("w1;l1 0;", -14);
        reads("w1;o0 0;", -16);
        reads("w1;r1;l0 0;l0 0;", -24);
        reads("w1;r1;d0 0;l0 0;", -24);
        reads("w1;r1;l0 0;d0 0", -24);
        reads("w1;r1;d0 0;d0 0;", -24);
        reads("w1;r1;l0 1;", -19);
        reads("w1;r1;d1 0;", -17);
        reads("w1;r1;o0 1;", -19);
        reads("w1;r1;o0 0;o0 0;", -21);
        reads("w1;r1;o0 0;l0 0;", 4);
        reads("w1;r1;d0 0;o0 0;", 4);
        reads("w2;r1 1;l0 0;l1 0;", 4);
        reads("s20 20 20 20;", 1);
        reads("s0 0 0 21;", -17);
        reads("s1 2 3;", -16);
        reads("s1 2 3 4 5;", -19);
        reads("w1;rl1;", -13);
        reads("sa1 1 1 1;", -10);
        reads("sz1 1 1 1;", -10);
        reads("s`1 1 1 1;", -11);
        reads("s{1 1 1 1;", -11);
        reads("w/4;", -11);
        reads("w:4;", -11);
        reads("w1;r1;l 0 0", -21);
        reads("w1;r1;l 0", -19);
        reads("w1;r1;l 0x", -19);
        StringBuilder longest = new StringBuilder("w1;");
        while (longest.length() < 147) {
            longest.append(' ');
        }
        reads(longest + "r1;", 2);
    }

    private static void promise5Cell() {
        SlabYard y = Check.told("w3;r1 2 3;r4 5 6;l2 0;d2 1;");
        due("height", y.cell(1, 1, 0), 5);
        due("height of a lid", y.cell(2, 0, 0), 3);
        due("height of a drain", y.cell(2, 1, 0), 6);
        due("nothing", y.cell(0, 0, 1), 0);
        due("a lid", y.cell(2, 0, 1), 1);
        due("a drain", y.cell(2, 1, 1), 2);
        due("no size", y.cell(0, 0, 2), NONE);
        due("no upper left", y.cell(0, 0, 3), NONE);
        due("not today's", y.cell(0, 0, 4), 0);
        y.lays(2, 1, 0);
        due("size", y.cell(1, 1, 2), 2);
        due("upper left", y.cell(1, 1, 3), 1);
        due("today's", y.cell(1, 1, 4), 1);
        due("size beside it", y.cell(0, 0, 2), NONE);
        y.day();
        due("no more today's", y.cell(1, 0, 4), 0);
        due("x -1", y.cell(-1, 0, 0), BAD);
        due("x 3", y.cell(3, 0, 0), BAD);
        due("y -1", y.cell(0, -1, 0), BAD);
        due("y 2", y.cell(0, 2, 0), BAD);
        due("what -1", y.cell(0, 0, -1), BAD);
        due("what 5", y.cell(0, 0, 5), BAD);
        due("far", y.cell(Integer.MAX_VALUE, Integer.MIN_VALUE, 0), BAD);
    }

    private static void promise6Lays() {
        SlabYard y = Check.told("w3;r0 0 0;r0 0 0;r0 0 0;l2 2;d0 2;s1 1 2 9;");
        due("size -1", y.lays(-1, 0, 0), BAD);
        due("size 4", y.lays(4, 0, 0), BAD);
        due("x 3", y.lays(3, 3, 0), BAD);
        due("y 3", y.lays(3, 0, 3), BAD);
        due("x -1", y.lays(3, -1, 0), BAD);
        due("too wide", y.lays(1, 2, 0), STATE);
        due("square too wide", y.lays(0, 2, 0), STATE);
        due("too high", y.lays(2, 1, 2), STATE);
        due("on a lid", y.lays(3, 2, 2), STATE);
        due("over a lid", y.lays(2, 2, 1), STATE);
        due("on a drain", y.lays(3, 0, 2), STATE);
        due("over a drain", y.lays(0, 0, 1), STATE);
        due("square", y.lays(0, 0, 0), 0);
        due("none left", y.lays(0, 1, 1), STATE);
        due("on a slab", y.lays(3, 1, 1), STATE);
        due("over a slab", y.lays(1, 1, 1), STATE);
        due("high", y.lays(2, 2, 0), 1);
        due("small", y.lays(3, 1, 2), 8);
        due("how many lie", y.now(2), 3);
        due("no free ones", y.now(1), 0);
        SlabYard wide = Check.told(FLAT);
        due("no way round the edge", wide.lays(1, 3, 0), STATE);
        due("in the corner", wide.lays(0, 2, 2), 19);
        due("its cells", wide.now(7), 0xCC00);
        due("wide one", wide.lays(1, 0, 1), 19);
        due("its cells, too", wide.now(7), 0xCC30);
        due("high one", wide.lays(2, 3, 0), 19);
        due("its cells as well", wide.now(7), 0xCCB8);
        due("small one", wide.lays(3, 0, 0), 19);
        due("its cell", wide.now(7), 0xCCB9);
    }

    private static void promise7Lifts() {
        SlabYard y = Check.told("w2;r0 0;r0 0;l1 1;");
        due("x 2", y.lifts(2, 0), BAD);
        due("y -1", y.lifts(0, -1), BAD);
        due("none there", y.lifts(0, 0), STATE);
        due("a lid", y.lifts(1, 1), STATE);
        y.lays(2, 0, 0);
        due("beside it", y.lifts(1, 0), STATE);
        due("by its lower cell", y.lifts(0, 1), 2);
        due("back in stock", y.stock(2), 4);
        due("gone", y.now(2), 0);
        due("free again", y.now(1), 0x13);
        due("none any more", y.lifts(0, 0), STATE);
    }

    private static void promise8Raises() {
        SlabYard y = Check.told("w2;r1 2;r3 4;l0 1;d1 1;");
        due("it had", y.raises(0, 0, 9), 1);
        due("it has", y.cell(0, 0, 0), 9);
        due("lowered", y.raises(0, 0, 0), 9);
        due("it is so", y.raises(0, 0, 0), STATE);
        due("a lid", y.raises(0, 1, 5), 3);
        due("a drain", y.raises(1, 1, 5), STATE);
        due("bad ahead of a drain", y.raises(1, 1, 10), BAD);
        due("h 10", y.raises(0, 0, 10), BAD);
        due("h -1", y.raises(0, 0, -1), BAD);
        due("x 2", y.raises(2, 0, 1), BAD);
        y.lays(3, 1, 0);
        due("under a slab", y.raises(1, 0, 7), 2);
        due("slab stays", y.cell(1, 0, 2), 3);
    }

    private static void promise9Day() {
        SlabYard y = Check.told("w2;r0 0;r0 0;");
        y.lays(1, 0, 0);
        due("today's", y.now(7), 3);
        due("a day", y.day(), 1);
        due("none is today's", y.now(7), 0);
        y.lays(3, 1, 1);
        due("that one is", y.now(7), 0x20);
        for (int day = 2; day <= 99; day++) {
            due("days", y.day(), day);
        }
        due("there were 99", y.day(), STATE);
        due("still 99", y.now(0), 99);
        y.undo();
        due("one may go by again", y.day(), 99);
    }

    private static void promise10Undo() {
        SlabYard y = Check.told("w2;r1 2;r3 4;");
        due("none", y.undo(), STATE);
        y.lays(0, 0, 0);
        y.day();
        y.lifts(1, 1);
        y.raises(0, 1, 8);
        y.lays(1, 0, 1);
        y.saw(0, 0);
        due("of the laid", y.undo(), 4);
        due("stock again", y.stock(1), 4);
        due("free again", y.now(1), 0x33);
        due("of the raised", y.undo(), 3);
        due("height again", y.cell(0, 1, 0), 3);
        due("of the lifted", y.undo(), 2);
        due("lies again", y.cell(1, 1, 2), 0);
        due("stock less", y.stock(0), 3);
        due("not of today", y.cell(1, 1, 4), 0);
        due("of the day", y.undo(), 1);
        due("days", y.now(0), 0);
        due("of today", y.cell(1, 1, 4), 1);
        due("lifted today", y.lifts(0, 0), 0);
        due("and that undone", y.undo(), 1);
        due("of today still", y.cell(0, 0, 4), 1);
        due("of the first", y.undo(), 0);
        due("no slabs", y.now(2), 0);
        due("no more", y.undo(), STATE);
        due("seen stays", y.count(3), 1);
        for (int times = 1; times <= 12; times++) {
            y.raises(0, 0, times % 2 == 1 ? 5 : 6);
        }
        due("ten are known", y.count(4), 10);
        for (int left = 9; left >= 0; left--) {
            due("one of ten", y.undo(), left);
        }
        due("older ones are lost", y.undo(), STATE);
        due("as after the second", y.cell(0, 0, 0), 6);
    }

    private static void promise11Now() {
        SlabYard y = Check.told(FLAT);
        due("free", y.now(1), 0xFFFF);
        due("puddles", y.now(3), 0xFFFF);
        due("what -1", y.now(-1), BAD);
        due("what 8", y.now(8), BAD);
        y.lays(0, 0, 0);
        y.lays(0, 2, 0);
        due("seam of two", y.now(5), 2);
        due("alike", y.now(6), 1);
        due("no cross of two", y.now(4), 0);
        y.lays(0, 0, 2);
        due("no cross of three", y.now(4), 0);
        y.lays(0, 2, 2);
        due("a cross", y.now(4), 1);
        due("seam of four", y.now(5), 4);
        due("alike of four", y.now(6), 4);
        due("slabs", y.now(2), 4);
        due("today's cells", y.now(7), 0xFFFF);
        y.day();
        due("days", y.now(0), 1);
        due("today's cells then", y.now(7), 0);
        due("no free", y.now(1), 0);
        y.lifts(3, 3);
        y.lays(2, 2, 2);
        due("cross of other sizes", y.now(4), 1);
        due("alike of one size only", y.now(6), 2);
        y.lays(2, 3, 2);
        due("two high ones", y.now(6), 3);
        due("no cross where one is under two", y.now(4), 1);
        SlabYard broken = Check.told("w4;r0 0 0 0;r0 0 0 0;r0 0 0 0;l1 0;d1 2;");
        due("free but lids, drains", broken.now(1), 0x0DFD);
        broken.lays(3, 0, 0);
        broken.lays(3, 0, 1);
        broken.lays(3, 1, 1);
        broken.lays(3, 2, 1);
        due("seam broken by a lid", broken.now(5), 1);
        due("alike in a row", broken.now(6), 3);
        broken.lays(1, 2, 0);
        due("seam of one piece", broken.now(5), 1);
        due("no seam inside a slab", broken.now(4), 0);
    }

    private static void promise12Stock() {
        SlabYard y = Check.told("s1 2 3 20;");
        due("0", y.stock(0), 1);
        due("1", y.stock(1), 2);
        due("2", y.stock(2), 3);
        due("3", y.stock(3), 20);
        due("-1", y.stock(-1), BAD);
        due("4", y.stock(4), BAD);
    }

    private static void promise13Drop() {
        SlabYard y = Check.told(BASIN);
        due("to the lowest", y.drop(0, 0, 0), 9);
        due("by three", y.drop(0, 0, 1), 3);
        due("a drain is lower than any", y.drop(1, 1, 1), 1);
        due("it stays", y.drop(1, 0, 0), 1);
        due("by none", y.drop(1, 0, 1), 0);
        due("on the drain", y.drop(1, 2, 0), 9);
        due("on the drain by none", y.drop(1, 2, 1), 0);
        due("what 2", y.drop(0, 0, 2), BAD);
        due("what -1", y.drop(0, 0, -1), BAD);
        due("x 3", y.drop(3, 0, 0), BAD);
        SlabYard four = Check.told("w3;r9 1 9;r1 5 1;r9 1 9;");
        due("up first", four.drop(1, 1, 0), 1);
        four.raises(1, 0, 5);
        due("right then", four.drop(1, 1, 0), 6);
        four.raises(2, 1, 5);
        due("down then", four.drop(1, 1, 0), 9);
        four.raises(1, 2, 5);
        due("left then", four.drop(1, 1, 0), 4);
        four.raises(0, 1, 5);
        due("as high is not lower", four.drop(1, 1, 0), 5);
        SlabYard lid = Check.told("w3;r9 0 9;r4 5 3;r9 1 9;l1 0;d0 1;d1 2;");
        due("not on a lid", lid.drop(1, 0, 0), BAD);
        due("of two drains the first", lid.drop(1, 1, 0), 9);
        due("from drain to drain none", lid.drop(0, 1, 1), 0);
    }

    private static void promise14Feeds() {
        SlabYard y = Check.told(BASIN);
        due("the drain", y.feeds(1, 2), 1909);
        due("the puddle", y.feeds(1, 0), 2);
        due("none", y.feeds(0, 0), 0);
        due("x -1", y.feeds(-1, 0), BAD);
        due("y 3", y.feeds(0, 3), BAD);
        due("puddles without drains", y.now(3), 2);
        SlabYard lid = Check.told("w3;r1 9 1;l1 0;");
        due("a lid", lid.feeds(1, 0), BAD);
        due("no drop of a lid", lid.feeds(0, 0), 1);
    }

    private static void mends(String text, int which, int height, int left) {
        SlabYard y = Check.told(text);
        int puddlesAhead = y.now(3);
        due("mend 0 of " + text, y.mend(0), which);
        due("mend 1 of " + text, y.mend(1), height);
        due("mend 2 of " + text, y.mend(2), left);
        due("nothing is changed by it", y.now(3), puddlesAhead);
    }

    private static void promise15Mend() {
        mends(BASIN, 1, 6, 0);
        mends("w3;r1 2 1;", 0, 3, 1);
        mends("w2;r5 5;", 0, 4, 1);
        mends("w2;r0 0;", 0, 1, 1);
        mends("w1;r5;", NONE, NONE, NONE);
        mends("w3;r1 9 1;l1 0;", NONE, NONE, NONE);
        mends("w2;r1 5;d0 0;", NONE, NONE, NONE);
        SlabYard y = new SlabYard();
        due("no cells", y.mend(0), NONE);
        due("what -1", y.mend(-1), BAD);
        due("what 3", y.mend(3), BAD);
    }

    private static void promise16Plan() {
        SlabYard y = Check.told("w2;r0 0;r0 0;");
        due("one square", y.plan(-1), 1);
        due("of size 0", y.plan(0), 0);
        due("under it", y.plan(5), NONE);
        due("c -2", y.plan(-2), BAD);
        due("c of no cell", y.plan(2), BAD);
        due("c 16", y.plan(16), BAD);
        due("nothing is laid by it", y.now(2), 0);
        y = Check.told("w3;r0 0 0;");
        due("two in a row", y.plan(-1), 2);
        due("the lowest size first", y.plan(0), 1);
        due("no upper left one", y.plan(1), NONE);
        due("then the rest", y.plan(2), 3);
        y = Check.told("w2;r0 0;r0 0;s0 0 0 4;");
        due("four would cross", y.plan(-1), NONE);
        due("none has one then", y.plan(0), NONE);
        y = Check.told("w2;r0 0;r0 0;s0 1 0 4;");
        due("three", y.plan(-1), 3);
        due("a wide one", y.plan(0), 1);
        due("small ones", y.plan(4), 3);
        due("small ones, too", y.plan(5), 3);
        y.lays(3, 0, 0);
        due("three more would cross", y.plan(-1), 2);
        due("none where one lies", y.plan(0), NONE);
        due("small one first", y.plan(1), 3);
        due("a wide one below", y.plan(4), 1);
        y.lays(3, 1, 0);
        y.lays(3, 0, 1);
        due("the fourth would cross", y.plan(-1), NONE);
        y.lays(3, 1, 1);
        due("nothing to lay, but a cross", y.plan(-1), NONE);
        y = Check.told("w2;r0 0;r0 0;s2 2 2 2;l0 0;d1 1;");
        due("round lids, drains", y.plan(-1), 2);
        y = Check.told("w2;r0 0;r0 0;s1 0 0 0;l0 0;");
        due("too large", y.plan(-1), NONE);
        y = Check.told(FLAT);
        due("four squares would cross", y.plan(-1), 5);
        due("nothing to lay", Check.told("w1;r1;l0 0;").plan(-1), 0);
        due("no cells", new SlabYard().plan(-1), 0);
        due("none of no cells", new SlabYard().plan(0), BAD);
    }

    private static void promise17Barrow() {
        SlabYard y = Check.told("w3;r0 0 0;r0 0 0;r0 0 0;l1 1;o0 1;");
        due("where the door is", y.barrow(0, 1), 0);
        due("round the lid", y.barrow(2, 1), 4);
        due("a lid", y.barrow(1, 1), BAD);
        due("x 3", y.barrow(3, 0), BAD);
        y.lays(3, 1, 0);
        due("onto today's", y.barrow(1, 0), 2);
        due("not over today's", y.barrow(2, 0), 5);
        y.lays(3, 1, 2);
        due("no way", y.barrow(2, 1), NONE);
        y.day();
        due("the day after", y.barrow(2, 1), 4);
        y.lays(3, 0, 1);
        due("today's at the door", y.barrow(0, 1), NONE);
        due("today's at the door, elsewhere", y.barrow(0, 0), NONE);
        y = Check.told("w2;r0 9;r0 0;o0 0;l0 0;d1 0;");
        due("a lid at the door", y.barrow(1, 1), NONE);
        y = Check.told("w3;r0 5 9;d1 0;");
        due("over a drain, up", y.barrow(2, 0), 2);
        y = Check.told("w4;r0 0 0 0;r0 0 0 0;r0 0 0 0;r0 0 0 0;l0 1;l1 1;l2 1;l1 3;l3 2;");
        due("no way where lids are", y.barrow(0, 3), NONE);
    }

    private static void chance(int x, int n, int k, int upper, int lower) {
        SlabYard y = new SlabYard();
        String what = "odds " + x + " " + n + " " + k;
        due(what + " upper", y.odds(x, n, k, 0), upper);
        due(what + " lower", y.odds(x, n, k, 1), lower);
    }

    private static void promise18Odds() {
        chance(5, 2, 1, 3, 4);
        chance(3, 1, 1, 7, 10);
        chance(10, 3, 0, 1, 1);
        chance(10, 3, 1, 0, 1);
        chance(0, 6, 6, 1, 1);
        chance(0, 0, 1, 0, 1);
        chance(10, 0, 0, 1, 1);
        chance(4, 2, 3, 0, 1);
        chance(2, 3, 2, 112, 125);
        chance(7, 6, 6, 729, 1000000);
        SlabYard y = new SlabYard();
        due("x -1", y.odds(-1, 1, 1, 0), BAD);
        due("x 11", y.odds(11, 1, 1, 0), BAD);
        due("n -1", y.odds(1, -1, 1, 0), BAD);
        due("n 7", y.odds(1, 7, 1, 0), BAD);
        due("k -1", y.odds(1, 1, -1, 0), BAD);
        due("k 7", y.odds(1, 1, 7, 0), BAD);
        due("what -1", y.odds(1, 1, 1, -1), BAD);
        due("what 2", y.odds(1, 1, 1, 2), BAD);
    }

    private static void promise19Saw() {
        SlabYard y = Check.told("w3;r1 1 1;l1 0;d2 0;");
        due("a lid", y.saw(1, 0), BAD);
        due("x 3", y.saw(3, 0), BAD);
        due("y 1", y.saw(0, 1), BAD);
        due("one", y.saw(0, 0), 1);
        due("the same", y.saw(0, 0), 2);
        due("a drain", y.saw(2, 0), 3);
        for (int seen = 4; seen <= 6; seen++) {
            due("more", y.saw(0, 0), seen);
        }
        due("full", y.saw(0, 0), FULL);
        due("bad ahead of full", y.saw(1, 0), BAD);
        due("six", y.count(3), 6);
    }

    private static void promise20Forget() {
        SlabYard y = Check.told("w2;r1 2;");
        due("nothing", y.forget(), 0);
        y.saw(0, 0);
        y.saw(1, 0);
        due("two", y.forget(), 2);
        due("none then", y.count(3), 0);
        due("from anywhere then", y.from(), 3);
        due("one anew", y.saw(1, 0), 1);
    }

    private static void promise21From() {
        SlabYard y = Check.told(BASIN);
        due("nothing seen", y.from(), 0x777);
        y.saw(0, 1);
        due("its own and those above", y.from(), 0x11);
        y.saw(1, 2);
        due("its end, too", y.from(), 0x11);
        y.saw(0, 0);
        due("the highest", y.from(), 1);
        y.saw(2, 2);
        due("no such one", y.from(), 0);
        SlabYard lid = Check.told("w3;r1 2 3;l1 0;");
        due("no lids", lid.from(), 5);
        due("no cells", new SlabYard().from(), 0);
    }

    private static void promise22Mark() {
        SlabYard y = Check.told("w3;r1 2 3;r4 5 6;r7 8 9;l1 1;");
        y.day();
        y.day();
        due("cell", y.mark(0, 2, 1), 6);
        due("true", y.mark(1, 2, 1), 9);
        due("true in a corner", y.mark(1, 0, 0), 3);
        due("true in the middle, a lid", y.mark(1, 1, 1), 9);
        due("low", y.mark(2, 2, 1), 4);
        due("low below 0", Check.told("w4;r0 0 0 0;").mark(2, 3, 0), -3);
        due("rocking", y.mark(3, 2, 1), 18);
        due("cut", y.mark(4, 2, 2), 9);
        due("wet", y.mark(5, 2, 1), 8);
        due("kind -1", y.mark(-1, 0, 0), NO);
        due("kind 6", y.mark(6, 0, 0), NO);
        due("x 3", y.mark(0, 3, 0), NO);
        due("y -1", y.mark(0, 0, -1), NO);
        due("no cells", new SlabYard().mark(0, 0, 0), NO);
    }

    private static void promise23Keep() {
        SlabYard y = Check.told("w2;r1 1;r1 1;");
        due("first", y.keep(0), 0);
        y.day();
        due("second", y.keep(1), 1);
        due("-1", y.keep(-1), BAD);
        due("2", y.keep(2), BAD);
        y.day();
        due("anew", y.keep(0), 2);
        due("back to that", y.back(0), 2);
        due("the other is as it was", y.back(1), 1);
        due("what may be undone then", y.count(4), 1);
    }

    private static void promise24Back() {
        SlabYard y = Check.told("w2;r1 2;r3 4;");
        due("-1", y.back(-1), BAD);
        due("2", y.back(2), BAD);
        due("none kept", y.back(0), STATE);
        y.lays(3, 0, 0);
        y.day();
        y.lays(1, 0, 1);
        y.raises(1, 0, 7);
        y.keep(1);
        due("none kept as 0", y.back(0), STATE);
        y.saw(0, 0);
        y.mark(0, 0, 0);
        y.undo();
        y.lifts(0, 0);
        y.lifts(0, 1);
        y.day();
        Check.type(y, "x");
        due("days", y.back(1), 1);
        due("slab", y.cell(0, 0, 2), 3);
        due("today's", y.now(7), 0x30);
        due("height", y.cell(1, 0, 0), 7);
        due("stock 3", y.stock(3), 3);
        due("stock 1", y.stock(1), 3);
        due("what may be undone", y.count(4), 4);
        due("seen stays", y.count(3), 1);
        due("trace stays", y.trace(), 1);
        due("text stays", y.count(5), 1);
        due("undone as then", y.undo(), 3);
        due("height as then", y.cell(1, 0, 0), 2);
        due("once more", y.back(1), 1);
        due("height once more", y.cell(1, 0, 0), 7);
    }

    private static void promise25Count() {
        SlabYard y = Check.told("w3;r1 1 1;r1 1 1;o2 1;");
        y.saw(0, 0);
        y.day();
        y.day();
        Check.type(y, "w1;;");
        due("wide", y.count(0), 3);
        due("rows", y.count(1), 2);
        due("door", y.count(2), 6);
        due("seen", y.count(3), 1);
        due("undone", y.count(4), 2);
        due("text", y.count(5), 4);
        due("-1", y.count(-1), BAD);
        due("6", y.count(6), BAD);
        due("wide without rows", Check.told("w3;").count(0), 3);
    }

    private static void promise26Trace() {
        SlabYard y = Check.told("w1;r1;");
        long due = 0;
        long[] more = {1, 11, 101, 1011, 10101, 100001};
        for (int kind = 0; kind < 6; kind++) {
            y.mark(kind, 0, 0);
            due += more[kind];
            due("trace by kind " + kind, y.trace(), due);
        }
        y.mark(6, 0, 0);
        y.mark(5, 1, 0);
        due("not by what is refused", y.trace(), due);
        y.yard();
        due("not by reading anew", y.trace(), due);
    }
}
