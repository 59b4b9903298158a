import java.util.ArrayList;
import java.util.List;

/** The bounds that the document's second part names, and promises 5 to 12: what is laid, lifted, raised and undone. */
public final class DoneBoundTest {
    private static final int BAD = -1, STATE = -2, NONE = -9;

    private static final Check CHECK = new Check("DoneBoundTest");

    /** Four by four, all of height 5, with as many slabs as may be. */
    private static final String FLAT = "w4;" + "r5 5 5 5;".repeat(4) + "s20 20 20 20;";

    private static final int[] WIDE = {2, 2, 1, 1};
    private static final int[] HIGH = {2, 1, 2, 1};

    public static void main(String[] args) {
        busyIsBusy();
        asksOfCells();
        free();
        sizes();
        inStock();
        cellsBeyondTheEdge();
        cellsThatAreTaken();
        layingIntoAllOfIt();
        todays();
        lifting();
        raising();
        raisingUnderAll();
        days();
        tenAreKnown();
        eachIsUndone();
        todaysAreUndone();
        todaysAreUndoneOnEachCell();
        lostOnesAreTheOldest();
        refusedIsNotUndone();
        asksOfNow();
        emptyNow();
        CHECK.end();
    }

    private static void due(String call, long got, long want) {
        CHECK.due(call, got, want);
    }

    private static void refused(String what, Scene scene, Scene.Call call, int want) {
        CHECK.changesNothing(what, scene, call, want);
    }

    /** Of the busy yard, and it stays as it is. */
    private static void asks(String what, Scene.Call call, int want) {
        CHECK.changesNothing(what, Scene.busy(), call, want);
    }

    /** Whether a slab of this size, its upper left cell 1 1, would lie on a cell. */
    private static boolean isUnder(int size, int number) {
        int right = number % 4 - 1;
        int down = number / 4 - 1;
        return right >= 0 && right < WIDE[size] && down >= 0 && down < HIGH[size];
    }

    /** The scene in which refused calls are tried has something of everything that a call could change. */
    private static void busyIsBusy() {
        SlabYard y = Scene.busy().made();
        due("busy: slabs", y.now(2), 3);
        due("busy: days", y.now(0), 1);
        due("busy: today's", y.now(7), 0x4400);
        due("busy: seen", y.count(3), 2);
        due("busy: to be undone", y.count(4), 7);
        due("busy: bytes", y.count(5), 13);
        due("busy: trace", y.trace(), 10101);
        due("busy: door", y.count(2), 14);
        due("busy: stock of 1", y.stock(1), 1);
        due("busy: image 0", Scene.busy().made().back(0), 1);
        due("busy: image 1", Scene.busy().made().back(1), 1);
        due("busy: text", Scene.busy().made().yard(), 3);
    }

    /** "cell: 0 .. 4": what is asked at the bounds and beyond, and each answer of each. */
    private static void asksOfCells() {
        for (int what : new int[] {-1, 5, 6, 32, Integer.MIN_VALUE, Integer.MAX_VALUE}) {
            refused("cell, what " + what, Scene.busy(), yard -> yard.cell(0, 0, what), BAD);
        }
        for (int what = 0; what <= 4; what++) {
            int asked = what;
            int[] ofYesterdays = {2, 0, 3, 0, 0};
            refused("a slab of yesterday " + what, Scene.busy(), yard -> yard.cell(0, 0, asked), ofYesterdays[what]);
            int[] ofTodays = {7, 0, 2, 10, 1};
            refused("a slab of today " + what, Scene.busy(), yard -> yard.cell(2, 3, asked), ofTodays[what]);
            int[] ofLid = {4, 1, NONE, NONE, 0};
            refused("a lid " + what, lidAndDrain(), yard -> yard.cell(1, 0, asked), ofLid[what]);
            int[] ofDrain = {6, 2, NONE, NONE, 0};
            refused("a drain " + what, lidAndDrain(), yard -> yard.cell(0, 1, asked), ofDrain[what]);
            int[] ofBare = {8, 0, NONE, NONE, 0};
            refused("a bare cell " + what, lidAndDrain(), yard -> yard.cell(1, 1, asked), ofBare[what]);
        }
    }

    private static Scene lidAndDrain() {
        return Scene.told("w2;r2 4;r6 8;l1 0;d0 1;").then(yard -> yard.lays(3, 0, 0));
    }

    /** "A CELL is FREE, if no SLAB lies on it and it is neither lid nor drain." */
    private static void free() {
        due("all", Check.told("w2;r1 1;r1 1;").now(1), 0x33);
        due("all of four by four", Check.told(FLAT).now(1), 0xFFFF);
        due("of one row of three", Check.told("w3;r1 1 1;").now(1), 7);
        due("no lid", Check.told("w2;r1 1;r1 1;l1 0;").now(1), 0x31);
        due("no drain", Check.told("w2;r1 1;r1 1;d0 1;").now(1), 0x23);
        for (int size = 0; size <= 3; size++) {
            int[] cells = {0x33, 0x03, 0x11, 0x01};
            SlabYard y = Check.told("w2;r1 1;r1 1;");
            y.lays(size, 0, 0);
            due("no slab of size " + size, y.now(1), 0x33 & ~cells[size]);
            due("cells of size " + size, y.now(7), cells[size]);
            y.lifts(0, 0);
            due("free again", y.now(1), 0x33);
        }
    }

    /** "SIZE 0 (2 by 2 CELLS), 1 (2 wide, 1 high), 2 (1 wide, 2 high), 3 (1 by 1)" */
    private static void sizes() {
        for (int size : new int[] {-1, 4, 5, 32, Integer.MIN_VALUE, Integer.MAX_VALUE}) {
            refused("lays size " + size, Scene.busy(), yard -> yard.lays(size, 1, 0), BAD);
        }
        for (int size = 0; size <= 3; size++) {
            SlabYard y = Check.told(FLAT);
            due("one less of size " + size, y.lays(size, 1, 1), 19);
            for (int number = 0; number <= 15; number++) {
                int cx = number % 4;
                int cy = number / 4;
                boolean under = isUnder(size, number);
                due("size " + size + " on " + number, y.cell(cx, cy, 2), under ? size : NONE);
                due("upper left of " + size + " on " + number, y.cell(cx, cy, 3), under ? 5 : NONE);
                due("today's " + size + " on " + number, y.cell(cx, cy, 4), under ? 1 : 0);
            }
        }
    }

    /** "of a SIZE that is in STOCK": the last one, none, as many as may be. */
    private static void inStock() {
        for (int size = 0; size <= 3; size++) {
            int s = size;
            String others = "s9 9 9 9;".substring(0, 1 + 2 * size);
            String rest = "s9 9 9 9;".substring(2 + 2 * size);
            String yard = "w4;" + "r1 1 1 1;".repeat(4);
            Scene none = Scene.told(yard + others + "0" + rest);
            refused("none of size " + size, none, y -> y.lays(s, 0, 0), STATE);
            Scene one = Scene.told(yard + others + "1" + rest).then(y -> y.lays(s, 0, 0));
            due("the last one", one.made().stock(size), 0);
            refused("none left of size " + size, one, y -> y.lays(s, WIDE[s], HIGH[s]), STATE);
            SlabYard lifted = one.then(y -> y.lifts(0, 0)).made();
            due("back in stock", lifted.stock(size), 1);
            due("laid again", lifted.lays(size, 1, 1), 0);
        }
        SlabYard all = Check.told("w4;" + "r1 1 1 1;".repeat(4) + "s0 0 0 20;");
        for (int number = 0; number <= 15; number++) {
            due("of twenty", all.lays(3, number % 4, number / 4), 19 - number);
        }
        all = Check.told("w4;" + "r1 1 1 1;".repeat(4) + "s0 0 0 15;");
        for (int number = 0; number <= 14; number++) {
            due("of fifteen", all.lays(3, number % 4, number / 4), 14 - number);
        }
        due("the sixteenth", all.lays(3, 3, 3), STATE);
    }

    /** "a CELL is not there": the slab's own upper left one is, another is not. */
    private static void cellsBeyondTheEdge() {
        for (int w = 1; w <= 4; w++) {
            for (int r = 1; r <= 4; r++) {
                Scene scene = Scene.told("w" + w + ";" + ("r" + " 5".repeat(w) + ";").repeat(r));
                int right = w - 1;
                int last = r - 1;
                String where = w + " by " + r;
                refused(where + " too wide", scene, y -> y.lays(1, right, 0), STATE);
                refused(where + " too high", scene, y -> y.lays(2, 0, last), STATE);
                refused(where + " square too wide", scene, y -> y.lays(0, right, 0), STATE);
                refused(where + " square too high", scene, y -> y.lays(0, 0, last), STATE);
                refused(where + " square in the corner", scene, y -> y.lays(0, right, last), STATE);
                due(where + " in the corner", scene.made().lays(3, right, last), 3);
                due(where + " wide", scene.made().lays(1, right - 1, last), w > 1 ? 3 : BAD);
                due(where + " high", scene.made().lays(2, right, last - 1), r > 1 ? 3 : BAD);
                due(where + " square", scene.made().lays(0, right - 1, last - 1), w > 1 && r > 1 ? 3 : BAD);
            }
        }
        for (int y = 0; y <= 3; y++) {
            int row = y;
            refused("not on into the next row", Scene.told(FLAT), yard -> yard.lays(1, 3, row), STATE);
            refused("square not on into it", Scene.told(FLAT), yard -> yard.lays(0, 3, row), STATE);
        }
    }

    /** "not FREE": each cell of each size, under a lid, a drain or a slab; the cells around may be. */
    private static void cellsThatAreTaken() {
        for (String by : new String[] {"l", "d", ""}) {
            for (int number = 0; number <= 15; number++) {
                int cx = number % 4;
                int cy = number / 4;
                Scene scene = Scene.told(FLAT + (by.isEmpty() ? "" : by + cx + " " + cy + ";"));
                if (by.isEmpty()) {
                    scene = scene.then(y -> y.lays(3, cx, cy)).then(SlabYard::day);
                }
                for (int size = 0; size <= 3; size++) {
                    int s = size;
                    boolean under = isUnder(size, number);
                    String what = "size " + size + " with '" + by + "' on " + number;
                    if (under) {
                        refused(what, scene, y -> y.lays(s, 1, 1), STATE);
                    } else {
                        due(what, scene.made().lays(size, 1, 1), by.isEmpty() && size == 3 ? 18 : 19);
                    }
                }
            }
        }
    }

    private static void layingIntoAllOfIt() {
        SlabYard y = Check.told(FLAT);
        for (int number = 0; number <= 15; number++) {
            y.lays(3, number % 4, number / 4);
        }
        due("sixteen slabs", y.now(2), 16);
        due("none is free", y.now(1), 0);
        due("none more", y.lays(3, 0, 0), STATE);
        due("all are today's", y.now(7), 0xFFFF);
        y.day();
        due("none is", y.now(7), 0);
        due("all still lie", y.now(2), 16);
    }

    /** "TODAY's, until a DAY goes by" */
    private static void todays() {
        SlabYard y = Check.told(FLAT);
        due("nothing laid", y.now(7), 0);
        y.lays(0, 0, 0);
        due("laid today", y.now(7), 0x33);
        due("laid today, its last cell", y.cell(1, 1, 4), 1);
        y.day();
        due("a day later", y.now(7), 0);
        due("a day later, its last cell", y.cell(1, 1, 4), 0);
        y.lays(2, 3, 2);
        due("only the new one", y.now(7), 0x8800);
        y.lifts(3, 3);
        due("lifted", y.now(7), 0);
        y.lifts(0, 0);
        y.lays(0, 0, 0);
        due("laid anew is today's", y.now(7), 0x33);
        y.day();
        y.day();
        due("two days later", y.now(7), 0);
    }

    /** "the SLAB that lies on a CELL; back in STOCK", "STATE: there is none" */
    private static void lifting() {
        refused("lifts where none lies", Scene.busy(), y -> y.lifts(1, 0), STATE);
        refused("lifts a lid", Scene.busy(), y -> y.lifts(2, 1), STATE);
        refused("lifts a drain", Scene.busy(), y -> y.lifts(1, 3), STATE);
        refused("lifts twice", Scene.busy().then(y -> y.lifts(0, 0)), y -> y.lifts(0, 0), STATE);
        for (int size = 0; size <= 3; size++) {
            int s = size;
            Scene laid = Scene.told(FLAT).then(y -> y.lays(s, 1, 1));
            for (int number = 0; number <= 15; number++) {
                int cx = number % 4;
                int cy = number / 4;
                boolean under = isUnder(size, number);
                SlabYard y = laid.made();
                due("lifts size " + size + " by " + number, y.lifts(cx, cy), under ? size : STATE);
                due("stock then", y.stock(size), under ? 20 : 19);
                due("slabs then", y.now(2), under ? 0 : 1);
                due("free then", y.now(1) == 0xFFFF ? 1 : 0, under ? 1 : 0);
            }
        }
    }

    /** "a CELL (no drain) gets another HEIGHT", "STATE: a drain, it is so" */
    private static void raising() {
        for (int h : new int[] {-1, 10, 11, 99, Integer.MIN_VALUE, Integer.MAX_VALUE}) {
            refused("raises by " + h, Scene.busy(), y -> y.raises(1, 0, h), BAD);
            refused("raises a drain by " + h, Scene.busy(), y -> y.raises(1, 3, h), BAD);
        }
        for (int had = 0; had <= 9; had++) {
            for (int h = 0; h <= 9; h++) {
                int to = h;
                Scene scene = Scene.told("w3;r5 " + had + " 5;");
                if (h == had) {
                    refused("it is " + h, scene, y -> y.raises(1, 0, to), STATE);
                } else {
                    SlabYard y = scene.made();
                    due(had + " becomes " + h, y.raises(1, 0, h), had);
                    due("and is so", y.cell(1, 0, 0), h);
                    due("the left one is as it was", y.cell(0, 0, 0), 5);
                    due("the right one is as it was", y.cell(2, 0, 0), 5);
                }
            }
        }
        for (int number = 0; number <= 15; number++) {
            SlabYard y = Check.told(FLAT);
            due("it had, on " + number, y.raises(number % 4, number / 4, 9), 5);
            for (int other = 0; other <= 15; other++) {
                int due = other == number ? 9 : 5;
                due("raised on " + number + ": " + other, y.cell(other % 4, other / 4, 0), due);
            }
            y.undo();
            due("undone on " + number, y.cell(number % 4, number / 4, 0), 5);
        }
        for (int h = 0; h <= 9; h++) {
            int to = h;
            refused("a drain by " + h, Scene.busy(), y -> y.raises(1, 3, to), STATE);
        }
    }

    private static void raisingUnderAll() {
        SlabYard y = Check.told("w3;r1 2 3;l0 0;o1 0;");
        due("a lid", y.raises(0, 0, 9), 1);
        due("the lid is so", y.cell(0, 0, 0), 9);
        due("it is a lid still", y.cell(0, 0, 1), 1);
        due("the door", y.raises(1, 0, 0), 2);
        y.lays(3, 2, 0);
        due("under a slab", y.raises(2, 0, 8), 3);
        due("the slab lies still", y.cell(2, 0, 2), 3);
        due("and is today's", y.cell(2, 0, 4), 1);
        due("all three may be undone, and the slab", y.count(4), 4);
        due("a lid that is so", y.raises(0, 0, 9), STATE);
    }

    /** "A DAY goes by (counted; 99 at most)", "STATE: there were 99" */
    private static void days() {
        SlabYard y = Check.told("w2;r1 1;");
        for (int day = 1; day <= 99; day++) {
            due("which day", y.day(), day);
            due("days", y.now(0), day);
        }
        Scene all = Scene.busy().times(98, SlabYard::day);
        due("99 days", all.made().now(0), 99);
        refused("the hundredth", all, SlabYard::day, STATE);
        Scene slab = all.then(x -> x.lays(3, 1, 2));
        refused("the hundredth, with a slab of today", slab, SlabYard::day, STATE);
        y = all.then(SlabYard::undo).made();
        due("one day less", y.now(0), 98);
        due("the last one anew", y.day(), 99);
        due("and none more", y.day(), STATE);
        y = all.then(x -> x.keep(0)).then(SlabYard::undo).then(x -> x.back(0)).made();
        due("99 by an image", y.now(0), 99);
        due("none more by an image", y.day(), STATE);
        due("a new object's day", new SlabYard().day(), 1);
    }

    /** "10 are known, older ones are lost", "how many more may be", "STATE: none" */
    private static void tenAreKnown() {
        refused("nothing to be undone", Scene.told("w1;r1;"), SlabYard::undo, STATE);
        for (int done = 1; done <= 25; done++) {
            Scene scene = Scene.told("w1;r0;");
            for (int i = 1; i <= done; i++) {
                int h = i % 10;
                scene = scene.then(y -> y.raises(0, 0, h));
            }
            int known = Math.min(done, 10);
            SlabYard y = scene.made();
            due(done + " done: known", y.count(4), known);
            for (int i = 1; i <= known; i++) {
                due(done + " done: left behind " + i, y.undo(), known - i);
                due(done + " done: height behind " + i, y.cell(0, 0, 0), (done - i) % 10);
                due(done + " done: count behind " + i, y.count(4), known - i);
            }
            refused(done + " done: none more", scene.times(known, SlabYard::undo), SlabYard::undo, STATE);
        }
        SlabYard y = Scene.told("w1;r0;").times(15, SlabYard::day).times(4, SlabYard::undo).made();
        due("six left", y.count(4), 6);
        for (int more = 7; more <= 10; more++) {
            y.raises(0, 0, more - 1);
            due("one more is known", y.count(4), more);
        }
        y.raises(0, 0, 1);
        due("ten still", y.count(4), 10);
        for (int left = 9; left >= 0; left--) {
            due("of ten", y.undo(), left);
        }
        due("six days are left, the first five lost", y.now(0), 6);
        due("the height is as it was", y.cell(0, 0, 0), 0);
    }

    /** "the latest LAID, LIFTED, RAISED, DAY: all is as ahead of it" */
    private static void eachIsUndone() {
        Scene busy = Scene.busy();
        Scene.Call[] calls = {
            y -> y.lays(3, 1, 0), y -> y.lays(2, 1, 2), y -> y.lays(3, 0, 3), y -> y.lifts(1, 1), y -> y.lifts(2, 2),
            y -> y.lifts(0, 0), y -> y.raises(2, 1, 0), y -> y.raises(0, 0, 9), y -> y.raises(2, 3, 6), SlabYard::day};
        int[] answers = {7, STATE, 7, 1, 2, 3, 6, 2, 7, 2};
        for (int i = 0; i < calls.length; i++) {
            due("call " + i, calls[i].on(busy.made()), answers[i]);
            if (answers[i] != STATE) {
                Scene.Call call = calls[i];
                refused("call " + i + " and undo", busy, y -> call.on(y) == STATE ? STATE : y.undo(), 7);
            }
        }
        SlabYard y = busy.times(7, SlabYard::undo).made();
        due("all undone: slabs", y.now(2), 0);
        due("all undone: days", y.now(0), 0);
        due("all undone: height", y.cell(0, 2, 0), 3);
        due("all undone: stock", y.stock(1), 2);
        due("all undone: seen stays", y.count(3), 2);
        due("all undone: text stays", y.count(5), 13);
        due("all undone: trace stays", y.trace(), 10101);
        due("all undone: images stay", y.back(1), 1);
    }

    /** A slab that is lifted, or over which a day goes by, is TODAY's again, or not, as it was. */
    private static void todaysAreUndone() {
        SlabYard y = Check.told(FLAT);
        y.lays(0, 0, 0);
        y.lifts(1, 1);
        y.undo();
        due("today's again", y.now(7), 0x33);
        y.day();
        y.lays(3, 3, 3);
        y.lifts(0, 1);
        y.undo();
        due("yesterday's is not", y.now(7), 0x8000);
        y.day();
        y.undo();
        due("as ahead of the day", y.now(7), 0x8000);
        y.undo();
        y.undo();
        due("as ahead of the first day", y.now(7), 0x33);
        y.day();
        y.lifts(0, 0);
        y.lays(0, 0, 0);
        due("laid anew", y.now(7), 0x33);
        y.undo();
        y.undo();
        due("yesterday's lies again", y.now(7), 0);
        due("it lies", y.cell(1, 1, 2), 0);
    }

    /** On each cell: yesterday's slab is lifted, today's laid there and undone, and the lifting, too. */
    private static void todaysAreUndoneOnEachCell() {
        for (int size = 0; size <= 3; size++) {
            for (int number = 0; number <= 15; number++) {
                int s = size;
                int x = number % 4;
                int y = number / 4;
                Scene laid = Scene.told(FLAT).then(yard -> yard.lays(s, x, y));
                if (laid.made().now(2) == 1) {
                    Scene yesterdays = laid.then(SlabYard::day);
                    Scene anew = yesterdays.then(yard -> yard.lifts(x, y)).then(yard -> yard.lays(s, x, y));
                    due("today's anew " + number, anew.made().now(7), laid.made().now(7));
                    due("yesterday's again " + number, anew.times(2, SlabYard::undo).made().now(7), 0);
                    due("today's again " + number, anew.times(3, SlabYard::undo).made().now(7), laid.made().now(7));
                    due("lifted " + number, laid.then(yard -> yard.lifts(x, y)).made().now(7), 0);
                    due("not laid " + number, laid.then(SlabYard::undo).made().now(7), 0);
                    refused("yesterday's lifted, undone " + number, yesterdays,
                        yard -> yard.lifts(x, y) == s ? yard.undo() : STATE, 2);
                }
            }
        }
    }

    /** "older ones are lost": those that are known stay what they were, each on its own cell. */
    private static void lostOnesAreTheOldest() {
        Scene scene = Scene.told(FLAT);
        Scene[] ahead = new Scene[17];
        Scene.Call[] kinds = {y -> y.raises(3, 3, 7), y -> y.lays(1, 2, 3), y -> y.lifts(3, 3), SlabYard::day};
        for (int i = 0; i <= 15; i++) {
            ahead[i] = scene;
            int number = i;
            scene = scene.then(i % 4 == 3 ? kinds[i / 4] : y -> y.lays(3, number % 4, number / 4));
        }
        ahead[16] = scene;
        due("ten of sixteen", scene.made().count(4), 10);
        for (int back = 1; back <= 10; back++) {
            Scene undone = scene.times(back, SlabYard::undo);
            List<String> answers = new ArrayList<>();
            List<String> wanted = new ArrayList<>();
            Scene.ask("", undone.made(), answers);
            Scene.ask("", ahead[16 - back].made(), wanted);
            // More were to be undone then: they are lost.
            answers.removeIf(answer -> answer.startsWith("count 4"));
            wanted.removeIf(answer -> answer.startsWith("count 4"));
            CHECK.same("undone " + back, answers, wanted);
        }
    }

    /** A refused call is none that is undone: the one ahead of it is. */
    private static void refusedIsNotUndone() {
        SlabYard y = Check.told("w2;r1 2;d1 0;s0 0 0 1;");
        y.lays(3, 0, 0);
        due("on a slab", y.lays(3, 0, 0), STATE);
        due("none lies", y.lifts(1, 0), STATE);
        due("it is so", y.raises(0, 0, 1), STATE);
        due("a drain", y.raises(1, 0, 5), STATE);
        due("no image", y.back(0), STATE);
        due("no cell", y.lays(3, 2, 0), BAD);
        due("one is known", y.count(4), 1);
        due("it is undone", y.undo(), 0);
        due("no slab then", y.now(2), 0);
    }

    /** "now: 0 .. 7" and "count: 0 .. 5", at the bounds and beyond */
    private static void asksOfNow() {
        for (int what : new int[] {-1, 8, 9, 32, Integer.MIN_VALUE, Integer.MAX_VALUE}) {
            refused("now " + what, Scene.busy(), y -> y.now(what), BAD);
        }
        for (int what : new int[] {-1, 6, 7, 32, Integer.MIN_VALUE, Integer.MAX_VALUE}) {
            refused("count " + what, Scene.busy(), y -> y.count(what), BAD);
        }
        // Cells 0, 2, 5 and 10 have none lower beside them; a seam is between cells 0 and 4.
        int[] now = {1, 0x1306, 3, 0x0425, 0, 1, 0, 0x4400};
        for (int what = 0; what <= 7; what++) {
            int asked = what;
            asks("now " + what, y -> y.now(asked), now[what]);
        }
        int[] count = {3, 4, 14, 2, 7, 13};
        for (int what = 0; what <= 5; what++) {
            int asked = what;
            asks("count " + what, y -> y.count(asked), count[what]);
        }
        int[] stock = {1, 1, 1, 8};
        for (int size = 0; size <= 3; size++) {
            int asked = size;
            asks("stock " + size, y -> y.stock(asked), stock[size]);
        }
    }

    /** A yard on which nothing lies, and one with no cells: all is 0. */
    private static void emptyNow() {
        SlabYard y = Check.told("w2;r1 2;r3 4;");
        int[] now = {0, 0x33, 0, 1, 0, 0, 0, 0};
        for (int what = 0; what <= 7; what++) {
            due("nothing laid: now " + what, y.now(what), now[what]);
            due("no cells: now " + what, new SlabYard().now(what), 0);
        }
    }
}
