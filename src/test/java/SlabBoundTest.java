/** The bounds that the document names of what lies: crosses, seams, slabs alike, plans, barrows, odds. */
public final class SlabBoundTest {
    private static final int BAD = -1, NONE = -9;

    private static final Check CHECK = new Check("SlabBoundTest");

    private static final String ROWS = "w4;" + "r0 0 0 0;".repeat(4);
    private static final String FLAT = ROWS + "s20 20 20 20;";

    public static void main(String[] args) {
        crossesOfFour();
        crossesWhereThreeMeet();
        mostCrosses();
        noCrossOverTheEdge();
        seamOfNone();
        seamsByLength();
        seamsBroken();
        seamsInLinesOfTheirOwn();
        seamNotOverTheEdge();
        alikeTouch();
        alikeOncePerTwo();
        alikeOfOneSize();
        planOfNothing();
        planBySizes();
        planOfStock();
        planWithoutCrosses();
        planFewest();
        planFirst();
        planNone();
        planAsks();
        planChangesNothing();
        barrowSteps();
        barrowOfTodays();
        barrowAtTheDoor();
        barrowRound();
        barrowNotOverTheEdge();
        oddsBounds();
        oddsAtTheEdges();
        CHECK.end();
    }

    private static void due(String call, long got, long want) {
        CHECK.due(call, got, want);
    }

    /** A yard with slabs: sizes and upper left cells, three digits a slab. */
    private static SlabYard laid(String text, String slabs) {
        SlabYard y = Check.told(text);
        for (String slab : slabs.trim().split(" ")) {
            if (!slab.isEmpty()) {
                boolean lies = y.lays(slab.charAt(0) - '0', slab.charAt(1) - '0', slab.charAt(2) - '0') >= 0;
                due(slabs + ": " + slab + " lies", lies ? 1 : 0, 1);
            }
        }
        return y;
    }

    private static void crosses(String slabs, int want) {
        due("crosses of " + slabs, laid(FLAT, slabs).now(4), want);
    }

    private static void seam(String slabs, int want) {
        due("seam of " + slabs, laid(FLAT, slabs).now(5), want);
    }

    private static void alike(String slabs, int want) {
        due("alike of " + slabs, laid(FLAT, slabs).now(6), want);
    }

    /** "points there are at which four CELLS meet, a SLAB on each, no two of them the same" */
    private static void crossesOfFour() {
        for (int y = 0; y <= 2; y++) {
            for (int x = 0; x <= 2; x++) {
                String small = "3" + x + y + " 3" + (x + 1) + y + " 3" + x + (y + 1);
                crosses(small, 0);
                crosses(small + " 3" + (x + 1) + (y + 1), 1);
            }
        }
        crosses("300 301 311 310", 1);
        crosses("000 020 002 022", 1);
        crosses("100 120 311 121", 1);
        crosses("200 210 202 212", 1);
        due("a lid is no slab", laid(FLAT + "l1 1;", "300 310 301").now(4), 0);
        due("a drain is no slab", laid(FLAT + "d1 1;", "300 310 301").now(4), 0);
        SlabYard y = laid(FLAT, "300 310 301 311");
        y.lifts(1, 1);
        due("lifted", y.now(4), 0);
        y.undo();
        due("and back", y.now(4), 1);
    }

    private static void crossesWhereThreeMeet() {
        crosses("100 301 311", 0);
        crosses("301 311 100", 0);
        crosses("300 310 101", 0);
        crosses("200 310 311", 0);
        crosses("300 301 210", 0);
        crosses("000", 0);
        crosses("100 101", 0);
        crosses("200 210", 0);
    }

    private static void mostCrosses() {
        StringBuilder all = new StringBuilder();
        for (int number = 0; number <= 15; number++) {
            all.append(" 3").append(number % 4).append(number / 4);
        }
        crosses(all.toString(), 9);
        seam(all.toString(), 4);
        alike(all.toString(), 24);
        crosses("", 0);
        crosses("300 310 320 301 311 321", 2);
        crosses("300 310 301 311 302 312", 2);
    }

    /** The last cells of a row and the first of the next are not beside one another. */
    private static void noCrossOverTheEdge() {
        crosses("330 301 331 302", 0);
        crosses("230 201 232", 0);
        crosses("303 313 323 333", 0);
        crosses("330 331 332 333", 0);
    }

    /** "each with a SLAB on either side, unlike ones" */
    private static void seamOfNone() {
        seam("", 0);
        seam("300", 0);
        seam("000", 0);
        seam("100", 0);
        seam("200", 0);
        seam("300 311", 0);
        seam("000 022", 0);
        seam("300 320", 0);
        due("over a lid", laid(FLAT + "l1 0;", "300 320").now(5), 0);
        due("over a drain", laid(FLAT + "d1 0;", "300 320").now(5), 0);
    }

    /** "the most CELLS' sides one behind another in one line": one to four, upright and level, in each line */
    private static void seamsByLength() {
        for (int line = 0; line <= 2; line++) {
            for (int first = 0; first <= 3; first++) {
                StringBuilder upright = new StringBuilder();
                StringBuilder level = new StringBuilder();
                for (int i = first; i <= 3; i++) {
                    upright.append(" 3").append(line).append(i).append(" 3").append(line + 1).append(i);
                    level.append(" 3").append(i).append(line).append(" 3").append(i).append(line + 1);
                    int length = i - first + 1;
                    due("upright" + upright, laid(FLAT, upright.toString()).now(5), length);
                    due("level" + level, laid(FLAT, level.toString()).now(5), length);
                }
            }
        }
        seam("000 020", 2);
        seam("000 002", 2);
        seam("200 210 202 212", 4);
        seam("100 101 120 121", 4);
        seam("000 020 002 022", 4);
        seam("200 310 311 302 312", 3);
    }

    /** "one behind another": a slab that lies over the line, or none, breaks it. */
    private static void seamsBroken() {
        seam("300 310 301 311 102 303 313", 2);
        seam("300 310 101 302 312 303 313", 2);
        seam("300 301 310 311 220 330 331", 2);
        seam("300 310 302 312", 1);
        seam("300 310 302 312 303 313", 2);
        seam("300 301 320 321", 1);
        seam("300 301 320 321 330 331", 2);
    }

    /** "in one line": a seam round a corner is two of them. */
    private static void seamsInLinesOfTheirOwn() {
        seam("000 220 102", 2);
        seam("000 220 202 022", 2);
        seam("300 310 311 321 322 332", 1);
        seam("310 101 112", 1);
    }

    private static void seamNotOverTheEdge() {
        seam("330 301", 0);
        seam("330 301 331 302", 1);
        seam("100 120 303 333", 1);
        seam("303 330", 0);
        seam("320 321 330 331 301 302 311 312", 2);
    }

    /** "SLABS of one SIZE that touch along a side" */
    private static void alikeTouch() {
        alike("", 0);
        alike("300", 0);
        alike("300 310", 1);
        alike("300 301", 1);
        alike("300 311", 0);
        alike("310 301", 0);
        alike("300 320", 0);
        alike("330 301", 0);
        alike("333 300", 0);
        alike("000 022", 0);
        alike("100 121", 0);
        alike("200 212", 0);
        alike("120 101", 0);
    }

    /** A two of slabs is one, along how many cells' sides they may touch. */
    private static void alikeOncePerTwo() {
        alike("000 020", 1);
        alike("000 021", 1);
        alike("000 002", 1);
        alike("100 101", 1);
        alike("100 111", 1);
        alike("100 120", 1);
        alike("200 210", 1);
        alike("200 211", 1);
        alike("200 202", 1);
        alike("300 310 320", 2);
        alike("300 310 301 311", 4);
        alike("000 020 002 022", 4);
    }

    private static void alikeOfOneSize() {
        alike("000 120", 0);
        alike("000 220", 0);
        alike("000 320", 0);
        alike("100 201", 0);
        alike("100 320", 0);
        alike("200 310", 0);
        alike("100 320 330", 1);
        SlabYard y = laid(FLAT, "300 310");
        y.day();
        due("of yesterday and of today", y.now(6), 1);
        y.lays(3, 2, 0);
        due("and one more", y.now(6), 2);
        y.lifts(1, 0);
        due("lifted between", y.now(6), 0);
    }

    private static void plans(String text, String slabs, int count, String sizes) {
        SlabYard y = laid(text, slabs);
        String what = "plan of " + text + " with " + slabs;
        due(what, y.plan(-1), count);
        for (int number = 0; number <= 15; number++) {
            boolean there = y.cell(number % 4, number / 4, 0) != BAD;
            char size = number < sizes.length() ? sizes.charAt(number) : '.';
            due(what + " of " + number, y.plan(number), !there ? BAD : size == '.' ? NONE : size - '0');
        }
    }

    /** Nothing is FREE: no slab is needed. */
    private static void planOfNothing() {
        plans("", "", 0, "");
        plans("w4;", "", 0, "");
        plans("w1;r1;l0 0;", "", 0, ".");
        plans("w1;r1;d0 0;s0 0 0 0;", "", 0, ".");
        plans("w1;r1;", "300", 0, ".");
        plans("w2;r1 1;s0 1 0 0;", "100", 0, "..");
        plans("w2;r1 1;r1 1;s1 0 0 0;", "000", 0, "....");
    }

    private static void planBySizes() {
        plans("w1;r1;", "", 1, "3");
        plans("w2;r1 1;", "", 1, "1.");
        plans("w1;r1;r1;", "", 1, "2");
        plans("w2;r1 1;r1 1;", "", 1, "0.");
        plans("w2;r1 1;r1 1;l0 0;", "", 2, ".2..3");
        plans("w2;r1 1;r1 1;", "300", 2, ".2..3");
        plans("w2;r1 1;r1 1;s0 1 0 9;", "300", 2, ".3..1");
    }

    /** "SLABS of STOCK": as many as there are, and one less. */
    private static void planOfStock() {
        plans("w3;r1 1 1;s0 0 0 3;", "", 3, "333");
        plans("w3;r1 1 1;s0 0 0 2;", "", NONE, "");
        plans("w3;r1 1 1;s0 1 0 1;", "", 2, "1.3");
        plans("w3;r1 1 1;s0 1 0 0;", "", NONE, "");
        plans("w3;r1 1 1;s0 1 0 1;", "300", 1, ".1");
        plans("w3;r1 1 1;s0 1 0 1;", "310", NONE, "");
        plans("w4;r1 1 1 1;s0 2 0 0;", "", 2, "1.1.");
        plans("w4;r1 1 1 1;s0 1 0 2;", "", 3, "1.33");
        plans("w4;r1 1 1 1;s20 0 20 0;", "", NONE, "");
        plans("w1;r1;s20 20 20 0;", "", NONE, "");
        plans("w2;r1 1;r1 1;s0 0 2 0;", "", 2, "22");
        plans("w2;r1 1;r1 1;s0 0 1 2;", "", 3, "23...3");
        for (int size = 0; size <= 3; size++) {
            String[] yards = {"w2;r1 1;r1 1;", "w2;r1 1;", "w1;r1;r1;", "w1;r1;"};
            for (int other = 0; other <= 3; other++) {
                String stock = "s" + "0 ".repeat(other) + "1" + " 0".repeat(3 - other) + ";";
                plans(yards[size] + stock, "", size == other ? 1 : NONE, size == other ? "" + size : "");
            }
        }
    }

    /** "so that there are no CROSSES then", "(CROSSES that there are already count.)" */
    private static void planWithoutCrosses() {
        plans("w2;r1 1;r1 1;s0 0 0 4;", "", NONE, "");
        plans("w2;r1 1;r1 1;s0 0 0 4;", "300", NONE, "");
        plans("w2;r1 1;r1 1;s0 0 0 4;", "300 310 301", NONE, "");
        plans("w2;r1 1;r1 1;s0 0 0 4;", "300 310 301 311", NONE, "");
        plans("w2;r1 1;r1 1;s0 0 0 4;l0 0;", "", 3, ".3..33");
        plans("w4;r1 1 1 1;r1 1 1 1;s1 0 0 5;", "300 310 301 311", NONE, "");
        plans("w4;r1 1 1 1;r1 1 1 1;s1 0 2 4;", "300 310 301 220", NONE, "");
        plans(ROWS + "s5 0 0 0;", "", NONE, "");
        plans("w2;r1 1;r1 1;", "100 301 311", 0, "");
        plans("w2;r1 1;r1 1;", "300 310 101", 0, "");
        plans("w2;r1 1;r1 1;", "200 310 311", 0, "");
        plans("w2;r1 1;r1 1;", "300 301 210", 0, "");
        plans("w2;r1 1;r1 1;", "100 301", 1, ".....3");
        plans("w2;r1 1;r1 1;", "200 310", 1, ".....3");
        plans(ROWS + "s4 0 0 0;", "000 020 002", NONE, "");
    }

    /** "that of fewest SLABS": not the one that begins with the larger slab */
    private static void planFewest() {
        plans("w3;r1 1 1;r1 1 1;l0 1;", "", 2, "30.");
        plans("w3;r1 1 1;r1 1 1;l0 1;s1 1 1 1;", "", 2, "30.");
        plans("w3;r1 1 1;r1 1 1;s9 0 9 9;", "", 2, "0.2");
        plans("w3;r1 1 1;r1 1 1;r1 1 1;l0 1;l1 2;l2 2;s9 9 9 9;", "", 3, "30......3");
    }

    /** "of several the first (the lowest FREE CELL by the lowest SIZE, then the next that is FREE, ..)" */
    private static void planFirst() {
        plans("w3;r1 1 1;", "", 2, "1.3");
        plans("w1;r1;r1;r1;", "", 2, "2.......3");
        plans("w3;r1 1 1;r1 1 1;", "", 2, "0.2");
        plans("w2;r1 1;r1 1;s0 9 9 9;", "", 2, "1...1");
        plans("w2;r1 1;r1 1;s0 1 2 9;", "", 2, "22");
        plans("w2;r1 1;r1 1;s0 1 1 9;", "", 3, "1...33");
        plans("w3;r1 1 1;r1 1 1;r1 1 1;l2 2;l0 0;", "", 3, ".0..2....3");
    }

    private static void planNone() {
        for (int c = -1; c <= 1; c++) {
            due("no such way " + c, Check.told("w2;r1 1;s9 0 9 1;").plan(c), NONE);
        }
        due("a square where there is none", Check.told("w2;r1 1;r1 1;s9 0 0 0;l0 0;").plan(-1), NONE);
    }

    /** "how many (c = -1), the SIZE by a CELL's number (NONE); NONE. BAD (c of a CELL there is)." */
    private static void planAsks() {
        SlabYard y = Check.told("w3;r1 1 1;r1 1 1;r1 1 1;l1 1;d2 2;");
        for (int c = -40; c <= 70; c++) {
            boolean there = c >= 0 && c <= 10 && c % 4 <= 2;
            due("there is " + c, y.plan(c) == BAD ? 0 : 1, there || c == -1 ? 1 : 0);
        }
        due("a lid", y.plan(5), NONE);
        due("a drain", y.plan(10), NONE);
        y.lays(3, 0, 0);
        due("one lies there", y.plan(0), NONE);
        for (int c : new int[] {-2, 3, 11, 12, 16, 32, Integer.MIN_VALUE, Integer.MAX_VALUE}) {
            due("bad also where there is no way " + c, Check.told("w3;r1 1 1;r1 1 1;r1 1 1;s0 0 0 0;").plan(c), BAD);
        }
    }

    private static void planChangesNothing() {
        Scene busy = Scene.busy();
        CHECK.changesNothing("plan", busy, y -> y.plan(-1), 3);
        CHECK.changesNothing("plan of a cell", busy, y -> y.plan(1), 1);
        CHECK.changesNothing("barrow", busy, y -> y.barrow(2, 2), NONE);
        CHECK.changesNothing("barrow a day later", busy.then(SlabYard::day), y -> y.barrow(2, 2), 1);
        CHECK.changesNothing("odds", busy, y -> y.odds(5, 2, 1, 0), 3);
        CHECK.changesNothing("crosses", busy, y -> y.now(4), 0);
        CHECK.changesNothing("seam", busy, y -> y.now(5), 1);
        CHECK.changesNothing("alike", busy, y -> y.now(6), 0);
        CHECK.changesNothing("barrow to a lid", busy, y -> y.barrow(2, 1), BAD);
    }

    /** "the fewest steps from CELL to CELL beside it .. from the DOOR on" */
    private static void barrowSteps() {
        for (int door = 0; door <= 15; door++) {
            SlabYard y = Check.told(FLAT + "o" + door % 4 + " " + door / 4 + ";");
            for (int to = 0; to <= 15; to++) {
                int far = Math.abs(to % 4 - door % 4) + Math.abs(to / 4 - door / 4);
                due("from " + door + " to " + to, y.barrow(to % 4, to / 4), far);
            }
        }
        SlabYard heights = Check.told("w3;r0 9 0;d1 0;");
        due("over heights and drains", heights.barrow(2, 0), 2);
        due("onto a drain", heights.barrow(1, 0), 1);
        SlabYard round = Check.told(ROWS + "l0 1;l1 1;l2 1;l1 3;l2 3;l3 3;");
        due("a long way", round.barrow(0, 3), 9);
        SlabYard spiral = Check.told(ROWS + "l0 1;l1 1;l2 1;l1 2;l2 2;");
        due("a longer way", spiral.barrow(0, 2), 10);
        SlabYard longest = Check.told(ROWS + "o2 0;l1 0;l1 1;l3 1;l1 2;l3 2;");
        due("the longest one", longest.barrow(0, 0), 8);
    }

    /** "none with a SLAB of TODAY's; that one may have one" */
    private static void barrowOfTodays() {
        SlabYard y = Check.told("w4;r1 1 1 1;");
        y.lays(1, 1, 0);
        due("ahead of it", y.barrow(0, 0), 0);
        due("onto it", y.barrow(1, 0), 1);
        due("not over it to its other cell", y.barrow(2, 0), NONE);
        due("not beyond it", y.barrow(3, 0), NONE);
        y.day();
        due("yesterday's: onto it", y.barrow(2, 0), 2);
        due("yesterday's: beyond it", y.barrow(3, 0), 3);
        y.undo();
        due("today's again", y.barrow(3, 0), NONE);
        y.undo();
        due("not laid", y.barrow(3, 0), 3);
        y = laid(FLAT, "310 301");
        due("onto the one", y.barrow(1, 0), 1);
        due("onto the other", y.barrow(0, 1), 1);
        due("not behind them", y.barrow(1, 1), NONE);
        y = laid(FLAT, "310 311");
        due("round them", y.barrow(2, 0), 6);
        due("onto the second one", y.barrow(1, 1), 2);
    }

    /** "the DOOR is a lid or has one, also where it is that CELL" */
    private static void barrowAtTheDoor() {
        SlabYard y = Check.told("w2;r1 1;o1 0;");
        due("at the door", y.barrow(1, 0), 0);
        due("from the door", y.barrow(0, 0), 1);
        y.lays(3, 1, 0);
        due("today's at the door", y.barrow(1, 0), NONE);
        due("today's at the door, elsewhere", y.barrow(0, 0), NONE);
        y.day();
        due("yesterday's at the door", y.barrow(1, 0), 0);
        due("yesterday's at the door, elsewhere", y.barrow(0, 0), 1);
        y = Check.told("w2;r1 1;o1 0;l1 0;");
        due("a lid at the door", y.barrow(0, 0), NONE);
        due("that lid itself", y.barrow(1, 0), BAD);
        y = Check.told("w2;r1 1;o1 0;d1 0;");
        due("a drain at the door", y.barrow(0, 0), 1);
        due("that drain itself", y.barrow(1, 0), 0);
        y = laid("w2;r1 1;r1 1;o0 1;", "200");
        due("its lower cell at the door", y.barrow(0, 1), NONE);
    }

    private static void barrowRound() {
        SlabYard y = Check.told("w3;r1 1 1;r1 1 1;r1 1 1;l1 1;l1 0;");
        due("round lids", y.barrow(2, 0), 6);
        due("a lid", y.barrow(1, 1), BAD);
        y.lays(3, 1, 2);
        due("onto today's", y.barrow(1, 2), 3);
        due("no way", y.barrow(2, 2), NONE);
        due("no way farther", y.barrow(2, 0), NONE);
    }

    private static void barrowNotOverTheEdge() {
        SlabYard y = Check.told("w4;r1 1 1 1;r1 1 1 1;l0 0;l1 1;l2 1;l3 1;o3 0;");
        due("not on into the next row", y.barrow(0, 1), NONE);
        y = Check.told("w4;r1 1 1 1;r1 1 1 1;l0 0;l1 1;l2 1;l3 1;o0 1;");
        due("not back into the row above", y.barrow(3, 0), NONE);
        y = Check.told("w4;r1 1 1 1;r1 1 1 1;r1 1 1 1;r1 1 1 1;l0 1;l1 1;l2 1;l3 1;");
        due("not from the first row to the last", y.barrow(0, 3), NONE);
        y = Check.told("w2;r1 1;r1 1;l0 1;l1 0;");
        due("not across a corner", y.barrow(1, 1), NONE);
    }

    /** "x (0 .. 10), n (0 .. 6), k (0 .. 6)" */
    private static void oddsBounds() {
        int[][] bad = {{-1, 3, 2, 0}, {11, 3, 2, 0}, {5, -1, 2, 0}, {5, 7, 2, 0}, {5, 3, -1, 0}, {5, 3, 7, 0},
            {5, 3, 2, -1}, {5, 3, 2, 2}, {Integer.MIN_VALUE, 3, 2, 0}, {Integer.MAX_VALUE, 3, 2, 0},
            {5, Integer.MIN_VALUE, 2, 0}, {5, Integer.MAX_VALUE, 2, 0}, {5, 3, Integer.MIN_VALUE, 0},
            {5, 3, Integer.MAX_VALUE, 0}, {5, 3, 2, Integer.MIN_VALUE}, {5, 3, 2, Integer.MAX_VALUE}};
        for (int[] o : bad) {
            String what = "odds " + o[0] + " " + o[1] + " " + o[2] + " " + o[3];
            CHECK.changesNothing(what, Scene.busy(), y -> y.odds(o[0], o[1], o[2], o[3]), BAD);
        }
        chance(1, 6, 6, 531441, 1000000);
        chance(9, 6, 6, 1, 1000000);
        chance(9, 6, 1, 468559, 1000000);
        chance(5, 6, 3, 21, 32);
        chance(5, 6, 0, 1, 1);
    }

    private static void chance(int x, int n, int k, int upper, int lower) {
        due("odds " + x + " " + n + " " + k + " upper", new SlabYard().odds(x, n, k, 0), upper);
        due("odds " + x + " " + n + " " + k + " lower", new SlabYard().odds(x, n, k, 1), lower);
    }

    /** None breaks, all break, none is asked for, more than there are; "in least terms". */
    private static void oddsAtTheEdges() {
        for (int n = 0; n <= 6; n++) {
            for (int k = 0; k <= 6; k++) {
                chance(0, n, k, k <= n ? 1 : 0, 1);
                chance(10, n, k, k == 0 ? 1 : 0, 1);
                for (int x = 0; x <= 10; x++) {
                    if (k == 0 || k > n) {
                        chance(x, n, k, k == 0 ? 1 : 0, 1);
                    }
                }
            }
        }
        chance(4, 1, 1, 3, 5);
        chance(5, 1, 1, 1, 2);
        chance(2, 1, 1, 4, 5);
        chance(3, 2, 2, 49, 100);
        chance(8, 2, 1, 9, 25);
    }
}
