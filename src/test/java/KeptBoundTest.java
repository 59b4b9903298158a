import java.util.List;

/** The bounds that the document's fourth part names: kinds, the trace, images, reading anew; the order of refusals. */
public final class KeptBoundTest {
    private static final int BAD = -1, STATE = -2, FULL = -3, NONE = -9, NO = -1000000;

    private static final Check CHECK = new Check("KeptBoundTest");

    private static final int[] TRACES = {1, 11, 101, 1011, 10101, 100001};

    public static void main(String[] args) {
        constants();
        kinds();
        kindsOfOneCell();
        besideAreThere();
        marksBelowNothing();
        marksOfDays();
        marksOfRaised();
        traceByKinds();
        traceOfAllCalls();
        marksChangeOnlyTheTrace();
        images();
        imagesKeepAll();
        imagesKeepEachPart();
        imagesKeepNothingElse();
        imagesAreOverwritten();
        imagesAreOfTheirOwn();
        readAnew();
        readAnewWithLess();
        badAheadOfState();
        badAheadOfFull();
        CHECK.end();
    }

    private static void due(String call, long got, long want) {
        CHECK.due(call, got, want);
    }

    private static void refused(String what, Scene scene, Scene.Call call, int want) {
        CHECK.changesNothing(what, scene, call, want);
    }

    private static void constants() {
        due("BAD", SlabYard.BAD, BAD);
        due("STATE", SlabYard.STATE, STATE);
        due("FULL", SlabYard.FULL, FULL);
        due("NONE", SlabYard.NONE, NONE);
        due("NO", SlabYard.NO, NO);
    }

    /** KINDS 0 .. 5, and no others: "NO: BAD" */
    private static void kinds() {
        for (int kind : new int[] {-1, 6, 7, 32, Integer.MIN_VALUE, Integer.MAX_VALUE}) {
            refused("kind " + kind, Scene.busy(), y -> y.mark(kind, 1, 1), NO);
        }
        for (int kind = 0; kind <= 5; kind++) {
            int asked = kind;
            refused("kind " + kind + " left of all", Scene.busy(), y -> y.mark(asked, -1, 0), NO);
            refused("kind " + kind + " right of all", Scene.busy(), y -> y.mark(asked, 3, 0), NO);
            refused("kind " + kind + " above all", Scene.busy(), y -> y.mark(asked, 0, -1), NO);
            refused("kind " + kind + " below all", Scene.busy(), y -> y.mark(asked, 0, 4), NO);
            due("kind " + kind + " of no cells", new SlabYard().mark(kind, 0, 0), NO);
        }
    }

    private static void kindsOfOneCell() {
        int[] marks = {7, 9, 5, 18, 8, 9};
        for (int kind = 0; kind <= 5; kind++) {
            SlabYard y = Check.told("w3;r0 0 0;r0 0 0;r0 0 0;r0 0 7;");
            y.day();
            y.day();
            due("kind " + kind, y.mark(kind, 2, 3), marks[kind]);
        }
    }

    /** "how many of the four beside it are there": none to four, lids and drains, too, and none over the edge */
    private static void besideAreThere() {
        due("none", Check.told("w1;r0;").mark(1, 0, 0), 0);
        due("none, doubled", Check.told("w1;r0;").mark(3, 0, 0), 0);
        due("one", Check.told("w2;r0 0;").mark(1, 1, 0), 1);
        due("one above", Check.told("w1;r0;r0;").mark(1, 0, 1), 1);
        due("lids, drains, too", Check.told("w3;r0 0 0;l0 0;d2 0;").mark(1, 1, 0), 2);
        for (int wide = 1; wide <= 4; wide++) {
            for (int rows = 1; rows <= 4; rows++) {
                String text = "w" + wide + ";" + ("r" + " 3".repeat(wide) + ";").repeat(rows);
                for (int x = 0; x < wide; x++) {
                    for (int y = 0; y < rows; y++) {
                        int there = (x > 0 ? 1 : 0) + (x < wide - 1 ? 1 : 0) + (y > 0 ? 1 : 0) + (y < rows - 1 ? 1 : 0);
                        String where = text + " " + x + " " + y;
                        due("CELL " + where, Check.told(text).mark(0, x, y), 3);
                        due("TRUE " + where, Check.told(text).mark(1, x, y), 3 + there);
                        due("LOW " + where, Check.told(text).mark(2, x, y), 3 - x);
                        due("ROCKING " + where, Check.told(text).mark(3, x, y), 2 * (3 + there));
                        due("CUT " + where, Check.told(text).mark(4, x, y), 3 - x + y);
                        due("WET " + where, Check.told(text).mark(5, x, y), 3);
                    }
                }
            }
        }
    }

    /** A number below 0 is an answer here, also those that refusals have elsewhere. */
    private static void marksBelowNothing() {
        SlabYard y = Check.told("w4;r0 0 0 0;r9 9 9 9;");
        due("LOW 0", y.mark(2, 0, 0), 0);
        due("LOW -1", y.mark(2, 1, 0), -1);
        due("LOW -2", y.mark(2, 2, 0), -2);
        due("LOW -3", y.mark(2, 3, 0), -3);
        due("CUT -3", y.mark(4, 3, 0), -3);
        due("CUT of 9", y.mark(4, 3, 1), 7);
        due("ROCKING of 9", y.mark(3, 1, 1), 24);
    }

    /** "WET up, and the DAYS": none to 99 */
    private static void marksOfDays() {
        SlabYard y = Check.told("w1;r9;");
        for (int day = 0; day <= 99; day++) {
            due("WET on day " + day, y.mark(5, 0, 0), 9 + day);
            y.day();
        }
        y.undo();
        due("WET, a day undone", y.mark(5, 0, 0), 107);
        due("CELL is as on the first", y.mark(0, 0, 0), 9);
    }

    private static void marksOfRaised() {
        SlabYard y = Check.told("w2;r9 5;l1 0;");
        y.raises(1, 0, 0);
        due("a lid's HEIGHT", y.mark(0, 1, 0), 0);
        due("a lid is LOW", y.mark(2, 1, 0), -1);
        y.undo();
        due("undone", y.mark(0, 1, 0), 5);
        due("a drain's HEIGHT", Check.told("w1;r7;d0 0;").mark(0, 0, 0), 7);
    }

    /** "numbers in brackets come to THE TRACE .. as often as mark() asks that body; up .. asked once" */
    private static void traceByKinds() {
        due("at first", new SlabYard().trace(), 0);
        for (int kind = 0; kind <= 5; kind++) {
            SlabYard y = Check.told("w1;r1;");
            y.mark(kind, 0, 0);
            due("trace of kind " + kind, y.trace(), TRACES[kind]);
            y.mark(kind, 0, 0);
            due("trace of it twice " + kind, y.trace(), 2 * TRACES[kind]);
        }
    }

    /** "of all calls ever, together" */
    private static void traceOfAllCalls() {
        SlabYard y = Check.told("w1;r1;");
        for (int times = 0; times < 490; times++) {
            y.mark(5, 0, 0);
        }
        due("490 times", y.trace(), 490L * 100001);
        y = Check.told("w1;r1;");
        long all = 0;
        for (int kind = 0; kind <= 5; kind++) {
            y.mark(kind, 0, 0);
            all += TRACES[kind];
            y.mark(kind, 1, 0);
            y.mark(6, 0, 0);
            due("together " + kind, y.trace(), all);
        }
        y.keep(0);
        y.mark(0, 0, 0);
        y.back(0);
        due("not by an image", y.trace(), all + 1);
        y.day();
        y.undo();
        due("not by undo", y.trace(), all + 1);
        Check.type(y, "w1;r1;x");
        y.yard();
        due("not by a fault", y.trace(), all + 1);
        y.clear();
        y.yard();
        due("not by reading anew", y.trace(), all + 1);
    }

    /** But for THE TRACE a mark leaves everything as it is. */
    private static void marksChangeOnlyTheTrace() {
        for (int kind = 0; kind <= 5; kind++) {
            int asked = kind;
            Scene marked = Scene.busy().then(y -> y.mark(asked, 1, 1));
            List<String> without = Scene.busy().everything();
            List<String> with = marked.everything();
            due("as much to ask", with.size(), without.size());
            for (int i = 0; i < with.size(); i++) {
                boolean trace = without.get(i).contains("trace");
                due("kind " + kind + " made '" + with.get(i) + "' of '" + without.get(i) + "'",
                    with.get(i).equals(without.get(i)) ? 0 : 1, trace ? 1 : 0);
            }
        }
    }

    /** "IMAGES 0, 1", "BAD; STATE: none was kept" */
    private static void images() {
        for (int image : new int[] {-1, 2, 3, 32, Integer.MIN_VALUE, Integer.MAX_VALUE}) {
            refused("keep " + image, Scene.busy(), y -> y.keep(image), BAD);
            refused("back " + image, Scene.busy(), y -> y.back(image), BAD);
        }
        for (int image = 0; image <= 1; image++) {
            int one = image;
            int other = 1 - image;
            Scene none = Scene.told("w2;r1 1;").then(SlabYard::day).type("w1;");
            refused("back " + image + " of none", none, y -> y.back(one), STATE);
            due("keep " + image, none.made().keep(image), 1);
            refused("back of the other than " + image, none.then(y -> y.keep(one)), y -> y.back(other), STATE);
            refused("back at once " + image, none.then(y -> y.keep(one)), y -> y.back(one), 1);
        }
        refused("keep of what is kept", Scene.busy(), y -> y.keep(1), 1);
        due("keep without cells", new SlabYard().keep(0), 0);
        Scene far = Scene.told("w1;r1;").times(99, SlabYard::day);
        due("keep on day 99", far.made().keep(0), 99);
        due("back to day 99", far.then(y -> y.keep(0)).then(SlabYard::undo).made().back(0), 99);
    }

    /** "SLABS, STOCK, HEIGHTS, TODAY's, DAYS, what may be UNDONE" */
    private static void imagesKeepAll() {
        Scene kept = Scene.busy().then(y -> y.keep(0));
        Scene changed = kept.then(y -> y.lifts(0, 0)).then(y -> y.lifts(1, 1)).then(y -> y.lays(3, 0, 1))
            .then(y -> y.raises(0, 0, 9)).then(SlabYard::day).then(SlabYard::day).then(y -> y.lays(1, 1, 0))
            .then(y -> y.raises(2, 3, 1)).then(y -> y.lays(0, 1, 1)).then(y -> y.lays(2, 0, 2))
            .then(y -> y.lifts(2, 2)).then(y -> y.lays(0, 0, 1));
        CHECK.same("back behind changes", changed.then(y -> y.back(0)), kept);
        CHECK.same("back behind undone ones", kept.times(7, SlabYard::undo).then(y -> y.back(0)), kept);
        CHECK.same("back behind many", kept.times(40, SlabYard::day).then(y -> y.back(0)), kept);
        CHECK.same("back twice", changed.then(y -> y.back(0)).then(SlabYard::day).then(y -> y.back(0)), kept);
        SlabYard y = kept.then(SlabYard::day).then(SlabYard::day).made();
        due("days as then", y.back(0), 1);
        due("to be undone as then", y.count(4), 7);
        due("today's as then", y.now(7), 0x4400);
        due("undone as then", y.undo(), 6);
        due("and the image has it still", y.back(0), 1);
        due("seven of them", y.count(4), 7);
    }

    /** Each SIZE's STOCK, and each cell's HEIGHT and slab. */
    private static void imagesKeepEachPart() {
        for (int size = 0; size <= 3; size++) {
            int s = size;
            Scene kept = Scene.told("w4;" + "r5 5 5 5;".repeat(4)).then(y -> y.keep(1));
            Scene laid = kept.then(y -> y.lays(s, 1, 2));
            CHECK.same("not laid yet " + size, laid.then(y -> y.back(1)), kept);
            Scene keptLaid = laid.then(y -> y.keep(0));
            CHECK.same("laid " + size, keptLaid.then(y -> y.lifts(1, 2)).then(y -> y.back(0)), keptLaid);
        }
        for (int number = 0; number <= 15; number++) {
            int x = number % 4;
            int y = number / 4;
            Scene kept = Scene.told("w4;" + "r5 5 5 5;".repeat(4)).then(yard -> yard.raises(x, y, 6))
                .then(yard -> yard.keep(1));
            Scene changed = kept.then(yard -> yard.raises(x, y, 7)).then(yard -> yard.lays(3, x, y));
            CHECK.same("as kept on " + number, changed.then(yard -> yard.back(1)), kept);
        }
    }

    /** "nothing else": not what was SEEN, THE TEXT, THE TRACE, the other image */
    private static void imagesKeepNothingElse() {
        SlabYard y = Scene.busy().made();
        y.saw(0, 0);
        y.type('x');
        y.mark(0, 0, 0);
        due("back", y.back(0), 1);
        due("seen stays", y.count(3), 3);
        due("text stays", y.count(5), 14);
        due("trace stays", y.trace(), 10102);
        due("what may be undone does not", y.count(4), 3);
        y.forget();
        y.clear();
        y.back(1);
        due("forgotten stays", y.count(3), 0);
        due("cleared stays", y.count(5), 0);
        due("the other image stays", y.back(0), 1);
        due("with what it has", y.count(4), 3);
        y = Scene.busy().then(x -> x.keep(0)).then(SlabYard::undo).made();
        due("undo leaves images", y.back(0), 1);
        due("as they were kept", y.count(4), 7);
    }

    /** An IMAGE is kept as it is when keep is called last. */
    private static void imagesAreOverwritten() {
        SlabYard y = Check.told("w1;r1;");
        y.keep(0);
        y.raises(0, 0, 5);
        y.keep(1);
        y.raises(0, 0, 7);
        y.keep(0);
        y.raises(0, 0, 9);
        y.back(1);
        due("the second", y.cell(0, 0, 0), 5);
        y.back(0);
        due("the third, not the first", y.cell(0, 0, 0), 7);
        due("two to be undone", y.count(4), 2);
    }

    /** What is done behind keep or back is not done to the image. */
    private static void imagesAreOfTheirOwn() {
        SlabYard y = Check.told("w2;r1 1;r1 1;");
        y.lays(3, 0, 0);
        y.keep(0);
        y.back(0);
        y.lays(3, 1, 0);
        y.raises(0, 1, 9);
        y.day();
        y.undo();
        y.undo();
        y.undo();
        y.undo();
        y.raises(1, 1, 0);
        y.back(0);
        due("its slabs", y.now(2), 1);
        due("its today's", y.now(7), 1);
        due("its heights", y.cell(0, 1, 0), 1);
        due("its heights, too", y.cell(1, 1, 0), 1);
        due("its stock", y.stock(3), 3);
        due("its undo", y.undo(), 0);
        due("no slab then", y.now(2), 0);
    }

    /** "Read anew: as told .., nothing LAID, SEEN or to be UNDONE, IMAGES are gone; THE TRACE stays." */
    private static void readAnew() {
        SlabYard y = Scene.busy().made();
        due("read", y.yard(), 3);
        due("wide", y.count(0), 2);
        due("rows", y.count(1), 1);
        due("door as at first", y.count(2), 0);
        due("nothing seen", y.count(3), 0);
        due("nothing to be undone", y.count(4), 0);
        due("no text", y.count(5), 0);
        due("nothing laid", y.now(2), 0);
        due("nothing of today", y.now(7), 0);
        due("no days", y.now(0), 0);
        due("free", y.now(1), 1);
        due("height", y.cell(1, 0, 0), 2);
        due("lid", y.cell(1, 0, 1), 1);
        for (int size = 0; size <= 3; size++) {
            due("stock as at first " + size, y.stock(size), 4);
        }
        due("trace", y.trace(), 10101);
        due("no undo", y.undo(), STATE);
        due("no image 0", y.back(0), STATE);
        due("no image 1", y.back(1), STATE);
        due("from anywhere", y.from(), 1);
        Scene told = Scene.told("w2;r1 2;l1 0;").then(x -> x.mark(4, 0, 0));
        CHECK.same("as a new object that has read it", Scene.busy().then(SlabYard::yard), told);
    }

    /** "what is not told as at first", of one yard behind another */
    private static void readAnewWithLess() {
        SlabYard y = Check.told("w4;r9 9 9 9;r9 9 9 9;l0 0;d1 0;o3 1;s0 0 0 0;");
        Check.type(y, "w4;r1 1 1 1;");
        y.yard();
        due("one row", y.count(1), 1);
        due("no lid, no drain", y.now(1), 15);
        due("door", y.count(2), 0);
        due("stock", y.stock(0), 4);
        due("none of the second row", y.cell(0, 1, 0), BAD);
        Check.type(y, "w4;");
        y.yard();
        due("no rows", y.count(1), 0);
        due("wide still", y.count(0), 4);
        Check.type(y, "s1 2 3 4;");
        y.yard();
        due("no wide", y.count(0), 0);
        due("stock told", y.stock(0), 1);
        y.yard();
        due("stock as at first", y.stock(0), 4);
    }

    /** "Refused .. the first of these: BAD .., STATE .., FULL." */
    private static void badAheadOfState() {
        Scene none = Scene.told("w2;r1 1;d1 0;s0 0 0 0;");
        refused("lays a size that is none, none in stock", none, y -> y.lays(4, 0, 0), BAD);
        refused("lays where none is, none in stock", none, y -> y.lays(0, 2, 0), BAD);
        refused("lays where none is", none, y -> y.lays(0, 0, 1), BAD);
        refused("lays, none in stock", none, y -> y.lays(0, 0, 0), STATE);
        refused("lifts where none is", none, y -> y.lifts(2, 0), BAD);
        refused("raises a drain too high", none, y -> y.raises(1, 0, 10), BAD);
        refused("raises a drain below 0", none, y -> y.raises(1, 0, -1), BAD);
        refused("raises where none is", none, y -> y.raises(2, 0, 1), BAD);
        refused("raises a drain to what it is", none, y -> y.raises(1, 0, 1), STATE);
        refused("back of none such", none, y -> y.back(2), BAD);
    }

    private static void badAheadOfFull() {
        Scene full = Scene.told("w2;r1 1;l1 0;").times(6, y -> y.saw(0, 0)).type(" ".repeat(150));
        refused("type none such", full, y -> y.type(-1), BAD);
        refused("type one more", full, y -> y.type(0), FULL);
        refused("saw a lid", full, y -> y.saw(1, 0), BAD);
        refused("saw none there", full, y -> y.saw(0, 1), BAD);
        refused("saw one more", full, y -> y.saw(0, 0), FULL);
    }
}
