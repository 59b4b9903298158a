/** The bounds that the document names of water: drops, puddles, feeds, mending, what was seen wet. */
public final class WaterBoundTest {
    private static final int BAD = -1, FULL = -3, NONE = -9;

    private static final Check CHECK = new Check("WaterBoundTest");

    /** Down from 9 at cell 0 along the edge to 0 at cell 12, and to the drain, cell 8, behind it: ten steps. */
    private static final String SPIRAL =
        "w4;r9 8 7 6;r1 1 1 5;r9 1 1 4;r0 1 2 3;l0 1;l1 1;l2 1;l1 2;l2 2;d0 2;";
    private static final int[] SPIRAL_WAY = {0, 1, 2, 3, 7, 11, 15, 14, 13, 12, 8};

    public static void main(String[] args) {
        asksOfDrops();
        onLids();
        onDrains();
        toDrains();
        lowestOfFour();
        orderOfEquals();
        orderOfDrains();
        onlyLower();
        notOverTheEdge();
        steps();
        puddles();
        feeds();
        nothingIsChanged();
        asksOfMend();
        mendFewest();
        mendLeastChange();
        mendLowestCell();
        mendLowestHeight();
        mendBoundsOfHeight();
        mendNone();
        sixSeen();
        seenOnLids();
        forgotten();
        fromNothing();
        fromWays();
        fromAllSix();
        CHECK.end();
    }

    private static void due(String call, long got, long want) {
        CHECK.due(call, got, want);
    }

    private static void drops(String text, int x, int y, int end, int steps) {
        due("end on " + text, Check.told(text).drop(x, y, 0), end);
        due("steps on " + text, Check.told(text).drop(x, y, 1), steps);
    }

    /** "ENDS (what = 0), STEPS (1). BAD" */
    private static void asksOfDrops() {
        for (int what : new int[] {-1, 2, 3, Integer.MIN_VALUE, Integer.MAX_VALUE}) {
            CHECK.changesNothing("drop, what " + what, Scene.busy(), y -> y.drop(0, 0, what), BAD);
        }
    }

    /** "A DROP on a CELL (no lid)", "BAD (a lid, too)", and none goes to a lid */
    private static void onLids() {
        for (int what = 0; what <= 1; what++) {
            int asked = what;
            CHECK.changesNothing("drop on a lid " + what, Scene.busy(), y -> y.drop(2, 1, asked), BAD);
        }
        CHECK.changesNothing("feeds of a lid", Scene.busy(), y -> y.feeds(2, 1), BAD);
        drops("w3;r0 5 1;l0 0;", 1, 0, 2, 1);
        drops("w3;r0 5 0;l0 0;l2 0;", 1, 0, 1, 0);
        drops("w1;r0;r5;r0;l0 0;l0 2;", 0, 1, 4, 0);
        due("only the lid's drop is missing", Check.told("w3;r0 5 1;l0 0;").feeds(2, 0), 6);
    }

    /** "on a drain it ends" */
    private static void onDrains() {
        drops("w2;r9 0;d0 0;", 0, 0, 0, 0);
        drops("w2;r9 0;d0 0;d1 0;", 0, 0, 0, 0);
        drops("w2;r9 0;d0 0;d1 0;", 1, 0, 1, 0);
        drops("w1;r9;d0 0;", 0, 0, 0, 0);
    }

    /** "a drain is lower than any CELL", whatever its own height and the others' are */
    private static void toDrains() {
        drops("w2;r9 0;d0 0;", 1, 0, 0, 1);
        drops("w3;r0 1 9;d2 0;", 1, 0, 2, 1);
        drops("w3;r9 1 0;d0 0;", 1, 0, 0, 1);
        drops("w2;r0 0;d0 0;", 1, 0, 0, 1);
        SlabYard y = Check.told("w3;r0 1 9;d2 0;");
        due("the other one is a puddle", y.now(3), 1);
    }

    /** "the lowest of those beside it": of four unlike ones, wherever it is */
    private static void lowestOfFour() {
        int[] ends = {1, 6, 9, 4};
        for (int lowest = 0; lowest <= 3; lowest++) {
            int[] heights = {2, 3, 4, 5};
            heights[lowest] = 1;
            drops(star(9, heights, ""), 1, 1, ends[lowest], 1);
        }
    }

    /** The middle of three by three, and the four beside it: up, right, down, left; the corners are high. */
    private static String star(int middle, int[] around, String more) {
        return "w3;r9 " + around[0] + " 9;r" + around[3] + " " + middle + " " + around[1] + ";r9 " + around[2]
            + " 9;" + more;
    }

    /** "of several the first in that order": all sets of equals among the four */
    private static void orderOfEquals() {
        int[] ends = {1, 6, 9, 4};
        for (int set = 0; set < 16; set++) {
            int[] heights = new int[4];
            int first = 5;
            for (int side = 3; side >= 0; side--) {
                boolean among = (set >> side & 1) != 0;
                heights[side] = among ? 4 : 5;
                first = among ? ends[side] : first;
            }
            drops(star(5, heights, ""), 1, 1, first, set == 0 ? 0 : 1);
            drops(star(9, heights, ""), 1, 1, set == 0 ? 1 : first, 1);
        }
    }

    private static void orderOfDrains() {
        String[] drains = {"d1 0;", "d2 1;", "d1 2;", "d0 1;"};
        int[] ends = {1, 6, 9, 4};
        for (int set = 1; set < 16; set++) {
            StringBuilder more = new StringBuilder();
            int first = NONE;
            for (int side = 3; side >= 0; side--) {
                if ((set >> side & 1) != 0) {
                    more.append(drains[side]);
                    first = ends[side];
                }
            }
            drops(star(5, new int[] {9, 7, 5, 0}, more.toString()), 1, 1, first, 1);
            drops(star(0, new int[] {0, 5, 7, 9}, more.toString()), 1, 1, first, 1);
        }
    }

    /** "that are lower than where it is" */
    private static void onlyLower() {
        for (int h = 0; h <= 9; h++) {
            for (int beside = 0; beside <= 9; beside++) {
                boolean lower = beside < h;
                drops("w2;r" + h + " " + beside + ";", 0, 0, lower ? 1 : 0, lower ? 1 : 0);
                drops("w1;r" + beside + ";r" + h + ";", 0, 1, lower ? 0 : 4, lower ? 1 : 0);
            }
        }
    }

    /** A row's last cell and the next one's first are not beside one another, nor the first row and the last. */
    private static void notOverTheEdge() {
        for (int wide = 2; wide <= 4; wide++) {
            String high = " 9".repeat(wide - 1);
            int last = wide - 1;
            drops("w" + wide + ";r" + high + " 5;r0" + high + ";", last, 0, wide == 2 ? 1 : last, 0);
            drops("w" + wide + ";r" + high + " 0;r5" + high + ";", 0, 1, 4, 0);
            drops("w" + wide + ";r5" + high + ";r" + " 9".repeat(wide) + ";r0" + high + ";", 0, 0, 0, 0);
            drops("w" + wide + ";r0" + high + ";r" + " 9".repeat(wide) + ";r5" + high + ";", 0, 2, 8, 0);
            drops("w" + wide + ";r5" + " 9".repeat(wide - 2) + " 0;", 0, 0, wide == 2 ? 1 : 0, wide == 2 ? 1 : 0);
        }
        drops("w1;r5;", 0, 0, 0, 0);
        drops("w4;r0 9 9 9;r9 9 9 9;r9 9 9 9;r9 9 9 5;", 3, 3, 15, 0);
        drops("w4;r5 9 9 9;r9 9 9 9;r9 9 9 9;r9 9 9 0;", 0, 0, 0, 0);
    }

    /** "by how many CELLS": none, one, up to ten */
    private static void steps() {
        for (int i = 0; i <= 10; i++) {
            int number = SPIRAL_WAY[i];
            drops(SPIRAL, number % 4, number / 4, 8, 10 - i);
        }
        String without = SPIRAL.replace("d0 2;", "l0 2;");
        for (int i = 0; i <= 9; i++) {
            int number = SPIRAL_WAY[i];
            drops(without, number % 4, number / 4, 12, 9 - i);
        }
    }

    /** "CELLS (bits; no drain) on which a DROP of some CELL ends" */
    private static void puddles() {
        due("the spiral has none", Check.told(SPIRAL).now(3), 0);
        due("without a drain its end", Check.told(SPIRAL.replace("d0 2;", "l0 2;")).now(3), 1 << 12);
        due("all, where all is flat", Check.told("w4;" + "r3 3 3 3;".repeat(4)).now(3), 0xFFFF);
        due("all of two rows of three", Check.told("w3;r0 0 0;r0 0 0;").now(3), 0x77);
        due("one cell", Check.told("w1;r9;").now(3), 1);
        due("one lid", Check.told("w1;r9;l0 0;").now(3), 0);
        due("one drain", Check.told("w1;r9;d0 0;").now(3), 0);
        due("all but a lid", Check.told("w2;r0 0;r0 0;l1 0;").now(3), 0x31);
        due("none beside a drain", Check.told("w3;r0 0 0;d1 0;").now(3), 0);
        due("one that is not beside it", Check.told("w3;r0 0 0;d0 0;").now(3), 4);
        due("where only its own drop ends", Check.told("w2;r5 9;r9 1;").now(3), 0x21);
    }

    /** "CELLS (bits) the DROPS of which end on it" */
    private static void feeds() {
        SlabYard y = Check.told(SPIRAL);
        due("the drain: all but lids", y.feeds(0, 2), 0xF98F);
        due("one where none ends", y.feeds(0, 3), 0);
        due("the highest one", y.feeds(0, 0), 0);
        y = Check.told("w4;" + "r3 3 3 3;".repeat(4));
        for (int number = 0; number <= 15; number++) {
            due("itself alone", y.feeds(number % 4, number / 4), 1 << number);
        }
        due("a drain that none reaches", Check.told("w3;r1 5 9;d2 0;l1 0;").feeds(2, 0), 4);
        due("of two drains the one", Check.told("w3;r1 5 9;d0 0;d2 0;").feeds(0, 0), 1);
        due("of two drains the other", Check.told("w3;r1 5 9;d0 0;d2 0;").feeds(2, 0), 6);
    }

    /** "(Nothing is changed.)" */
    private static void nothingIsChanged() {
        Scene busy = Scene.busy();
        CHECK.changesNothing("drop", busy, y -> y.drop(1, 0, 0), 5);
        CHECK.changesNothing("steps", busy, y -> y.drop(1, 0, 1), 1);
        CHECK.changesNothing("feeds", busy, y -> y.feeds(1, 1), 0x0032);
        CHECK.changesNothing("mend", busy, y -> y.mend(2), 2);
        CHECK.changesNothing("from", busy, SlabYard::from, 2);
        CHECK.changesNothing("puddles", busy, y -> y.now(3), 0x0425);
        CHECK.changesNothing("trace", busy, SlabYard::trace, 10101);
    }

    private static void asksOfMend() {
        for (int what : new int[] {-1, 3, 4, Integer.MIN_VALUE, Integer.MAX_VALUE}) {
            CHECK.changesNothing("mend, what " + what, Scene.busy(), y -> y.mend(what), BAD);
            due("mend of no cells, what " + what, new SlabYard().mend(what), BAD);
        }
    }

    private static void mends(String text, int which, int height, int left) {
        due("mend 0 of " + text, Check.told(text).mend(0), which);
        due("mend 1 of " + text, Check.told(text).mend(1), height);
        due("mend 2 of " + text, Check.told(text).mend(2), left);
    }

    /** "leaves fewest PUDDLES": by two, though one less is left by one */
    private static void mendFewest() {
        mends("w3;r3 3 4;r1 4 3;", 5, 2, 1);
        mends("w3;r1 2 9;r9 9 3;d2 0;", 0, 3, 0);
    }

    /** "of several by which its HEIGHT changes least", though it is a higher cell */
    private static void mendLeastChange() {
        mends("w3;r1 4 3;", 1, 2, 1);
        mends("w3;r3 4 1;", 0, 5, 1);
        mends("w3;r0 9 5;", 1, 4, 1);
    }

    /** "then the lowest CELL" */
    private static void mendLowestCell() {
        mends("w3;r1 2 1;", 0, 3, 1);
        mends("w1;r1;r2;r1;", 0, 3, 1);
        mends("w3;r9 9 9;r1 2 1;", 4, 3, 1);
        mends("w3;r1 2 1;l0 0;", NONE, NONE, NONE);
    }

    /** "then the lowest HEIGHT" */
    private static void mendLowestHeight() {
        for (int h = 1; h <= 8; h++) {
            mends("w2;r" + h + " " + h + ";", 0, h - 1, 1);
        }
        mends("w2;r9 9;", 0, 8, 1);
    }

    /** A HEIGHT is 0 .. 9 here, too. */
    private static void mendBoundsOfHeight() {
        mends("w2;r0 0;", 0, 1, 1);
        mends("w3;r9 9 8;", 1, 7, 1);
        mends("w3;r8 9 8;", 1, 7, 1);
        mends("w3;r7 8 7;", 0, 9, 1);
        mends("w2;r9 9;r9 9;d0 0;", 1, 8, 0);
    }

    /** "if fewer than NOW ..; NONE" */
    private static void mendNone() {
        mends("w1;r5;", NONE, NONE, NONE);
        mends("w4;r9 8 7 6;", NONE, NONE, NONE);
        mends("w2;r1 5;d0 0;", NONE, NONE, NONE);
        mends("w3;r1 9 1;l1 0;", NONE, NONE, NONE);
        mends("w1;r5;l0 0;", NONE, NONE, NONE);
        mends("w1;r5;d0 0;", NONE, NONE, NONE);
        mends("w4;", NONE, NONE, NONE);
        mends("", NONE, NONE, NONE);
        mends(SPIRAL, NONE, NONE, NONE);
    }

    /** "SEEN (6 at most)", "FULL" */
    private static void sixSeen() {
        Scene scene = Scene.busy();
        for (int seen = 3; seen <= 6; seen++) {
            due("seen", scene.made().saw(1, 1), seen);
            scene = scene.then(y -> y.saw(1, 1));
            due("how much there is", scene.made().count(3), seen);
        }
        CHECK.changesNothing("the seventh", scene, y -> y.saw(1, 1), FULL);
        CHECK.changesNothing("the seventh, another one", scene, y -> y.saw(0, 0), FULL);
        CHECK.changesNothing("the seventh, a lid", scene, y -> y.saw(2, 1), BAD);
        CHECK.changesNothing("the seventh, none there", scene, y -> y.saw(3, 1), BAD);
        SlabYard y = scene.then(SlabYard::forget).made();
        for (int seen = 1; seen <= 6; seen++) {
            due("six more", y.saw(0, 0), seen);
        }
        due("and full", y.saw(0, 0), FULL);
    }

    private static void seenOnLids() {
        CHECK.changesNothing("saw on a lid", Scene.busy(), y -> y.saw(2, 1), BAD);
        due("saw on a drain", Scene.busy().made().saw(1, 3), 3);
        due("saw under a slab", Scene.busy().made().saw(0, 0), 3);
    }

    /** "Nothing was SEEN: how much there was." */
    private static void forgotten() {
        Scene none = Scene.busy().then(SlabYard::forget);
        CHECK.changesNothing("forget of nothing", none, SlabYard::forget, 0);
        due("forget of two", Scene.busy().made().forget(), 2);
        due("forget of six", Scene.busy().times(4, y -> y.saw(0, 0)).made().forget(), 6);
        due("none then", none.made().count(3), 0);
        due("from anywhere then", none.made().from(), 0x7737);
    }

    /** With nothing SEEN all of it would be on the way of any drop; "CELLS (bits; no lids)". */
    private static void fromNothing() {
        due("no cells", new SlabYard().from(), 0);
        due("all", Check.told("w2;r1 1;r1 1;").from(), 0x33);
        due("no lids", Check.told("w2;r1 1;r1 1;l0 1;").from(), 0x23);
        due("drains, too", Check.told("w2;r1 1;r1 1;d0 1;").from(), 0x33);
        due("a lid alone", Check.told("w1;r1;l0 0;").from(), 0);
    }

    /** "all that was SEEN would be on its way (its own, its end, too)" */
    private static void fromWays() {
        int above = 0;
        for (int number : SPIRAL_WAY) {
            above |= 1 << number;
            SlabYard y = Check.told(SPIRAL);
            y.saw(number % 4, number / 4);
            due("those above, and itself: " + number, y.from(), above);
            y.saw(0, 2);
            due("and its end: " + number, y.from(), above);
            y.saw(0, 0);
            due("and the highest: " + number, y.from(), 1);
        }
        SlabYard y = Check.told("w3;r1 5 2;");
        y.saw(0, 0);
        due("two", y.from(), 3);
        y.saw(2, 0);
        due("no one drop for both", y.from(), 0);
        y.raises(0, 0, 9);
        due("one, with other heights", y.from(), 1);
        y.undo();
        due("none again", y.from(), 0);
    }

    private static void fromAllSix() {
        SlabYard y = Check.told(SPIRAL);
        int above = 0;
        for (int i = 0; i <= 5; i++) {
            above |= 1 << SPIRAL_WAY[i];
            y.saw(SPIRAL_WAY[10 - i] % 4, SPIRAL_WAY[10 - i] / 4);
        }
        due("above the sixth one", y.from(), above);
        y.forget();
        for (int i = 0; i <= 5; i++) {
            y.saw(SPIRAL_WAY[i] % 4, SPIRAL_WAY[i] / 4);
        }
        due("only the highest", y.from(), 1);
    }
}
