/** The bounds that the document's first part names, and promises 1 to 4: the yard, and the text that tells it. */
public final class TextBoundTest {
    private static final int BAD = -1, STATE = -2, FULL = -3, NONE = -9, NO = -1000000;

    private static final Check CHECK = new Check("TextBoundTest");

    public static void main(String[] args) {
        newObject();
        bytesOfType();
        bytesOfTheText();
        clearing();
        noItems();
        wide();
        rows();
        heights();
        lidsAndDrains();
        lidsOnAllCells();
        door();
        stock();
        cellsThatAreThere();
        numbersOfCells();
        blanks();
        firstBytes();
        letters();
        numbersThatNeverStand();
        endOfItems();
        wFirst();
        rowsAheadOfOthers();
        onceEach();
        firstFaultCounts();
        tooEarly();
        withoutW();
        faultsChangeNothing();
        textGoesOnBehindAFault();
        CHECK.end();
    }

    private static void due(String call, long got, long want) {
        CHECK.due(call, got, want);
    }

    private static void reads(String text, int want) {
        SlabYard y = new SlabYard();
        Check.type(y, text);
        due("yard of '" + text + "'", y.yard(), want);
        due("bytes then of '" + text + "'", y.count(5), want < 0 ? text.length() : 0);
    }

    private static void faults(String text, int place) {
        reads(text, -10 - place);
    }

    private static String blanks(int many) {
        return " ".repeat(many);
    }

    /** "As told; no CELLS." */
    private static void newObject() {
        for (int x = -1; x <= 4; x++) {
            for (int y = -1; y <= 4; y++) {
                SlabYard yard = new SlabYard();
                String where = "new: " + x + " " + y;
                due(where + " cell", yard.cell(x, y, 0), BAD);
                due(where + " lays", yard.lays(3, x, y), BAD);
                due(where + " lifts", yard.lifts(x, y), BAD);
                due(where + " raises", yard.raises(x, y, 1), BAD);
                due(where + " drop", yard.drop(x, y, 0), BAD);
                due(where + " feeds", yard.feeds(x, y), BAD);
                due(where + " barrow", yard.barrow(x, y), BAD);
                due(where + " saw", yard.saw(x, y), BAD);
                due(where + " mark", yard.mark(0, x, y), NO);
            }
        }
        for (int c = 0; c <= 15; c++) {
            due("new: plan " + c, new SlabYard().plan(c), BAD);
        }
        due("new: plan", new SlabYard().plan(-1), 0);
        due("new: mend", new SlabYard().mend(0), NONE);
        due("new: from", new SlabYard().from(), 0);
        due("new: forget", new SlabYard().forget(), 0);
        due("new: clear", new SlabYard().clear(), 0);
        due("new: door", new SlabYard().count(2), 0);
        due("new: stock", new SlabYard().stock(0), 4);
        due("new: trace", new SlabYard().trace(), 0);
        CHECK.changesNothing("new: undo", Scene.fresh(), SlabYard::undo, STATE);
        CHECK.changesNothing("new: back", Scene.fresh(), yard -> yard.back(1), STATE);
        CHECK.changesNothing("new: yard", Scene.fresh(), SlabYard::yard, 0);
    }

    /** "A byte (0 .. 255)" */
    private static void bytesOfType() {
        for (int c = 0; c <= 255; c++) {
            due("type " + c, new SlabYard().type(c), 1);
        }
        for (int c : new int[] {-1, 256, -256, 375, Integer.MIN_VALUE, Integer.MAX_VALUE}) {
            CHECK.changesNothing("type " + c, Scene.busy(), yard -> yard.type(c), BAD);
        }
    }

    /** "150 bytes at most" */
    private static void bytesOfTheText() {
        Scene all = Scene.busy().then(SlabYard::clear).type("w1;" + blanks(144)).type("r7;");
        due("150 bytes", all.made().count(5), 150);
        due("149 bytes, one more", Scene.fresh().type(blanks(149)).made().type(' '), 150);
        CHECK.changesNothing("150 bytes, one more", all, yard -> yard.type('x'), FULL);
        CHECK.changesNothing("150 bytes, one that is none", all, yard -> yard.type(256), BAD);
        SlabYard y = all.made();
        due("all 150 are read", y.yard(), 2);
        due("the last ones, too", y.cell(0, 0, 0), 7);
        due("one more then", y.type('w'), 1);
        y = all.made();
        due("clear of 150", y.clear(), 150);
        due("one more then, too", y.type('w'), 1);
        faults("w1;" + blanks(146) + "x", 149);
        faults("w1;" + blanks(146) + "s", 150);
        y = Scene.fresh().type("w1;" + blanks(146)).made();
        y.type('x');
        y.type(';');
        due("the 151st is not read", y.yard(), -159);
    }

    /** "THE TEXT is empty: how many bytes it had." */
    private static void clearing() {
        CHECK.changesNothing("clear of nothing", Scene.busy().then(SlabYard::clear), SlabYard::clear, 0);
        SlabYard y = Scene.fresh().type("w3;r1").made();
        due("clear of five", y.clear(), 5);
        due("none then", y.count(5), 0);
        due("none is read then", y.yard(), 0);
    }

    /** "ITEMS (none, too)" */
    private static void noItems() {
        reads("", 0);
        reads(" ", 0);
        reads(blanks(150), 0);
        reads("w1;", 1);
        faults(";", 0);
        faults(" ;", 1);
        SlabYard y = Scene.busy().then(SlabYard::clear).made();
        due("of nothing", y.yard(), 0);
        due("no wide", y.count(0), 0);
        due("no rows", y.count(1), 0);
        due("door as at first", y.count(2), 0);
        due("stock as at first", y.stock(0), 4);
        due("stock of 3 as at first", y.stock(3), 4);
        due("no cell", y.cell(0, 0, 0), BAD);
        due("no day", y.now(0), 0);
    }

    /** "WIDE (1 .. 4)" */
    private static void wide() {
        for (int n = 0; n <= 99; n++) {
            reads("w" + n + ";", n >= 1 && n <= 4 ? 1 : -11);
        }
        for (int n = 1; n <= 4; n++) {
            due("wide", Check.told("w" + n + ";").count(0), n);
        }
    }

    /** "as many ROWS of them as are told (4 at most)", "a fifth ROW", "r and WIDE HEIGHTS" */
    private static void rows() {
        for (int wide = 1; wide <= 4; wide++) {
            String row = "r" + " 1".repeat(wide) + ";";
            String text = "w" + wide + ";";
            for (int rows = 0; rows <= 4; rows++) {
                String told = text + row.repeat(rows);
                due("rows of " + told, Check.told(told).count(1), rows);
                reads(told, rows + 1);
            }
            faults(text + row.repeat(5), 3 + 4 * row.length());
            faults(text + row.repeat(4) + "s1 1 1 1;" + row, 12 + 4 * row.length());
            faults(text + "r" + " 1".repeat(wide - 1) + ";", 2 + 2 * wide);
            faults(text + "r" + " 1".repeat(wide + 1) + ";", 5 + 2 * wide);
            faults(text + "r" + " 1".repeat(wide - 1), 2 + 2 * wide);
        }
    }

    /** "a HEIGHT (0 .. 9)" */
    private static void heights() {
        for (int n = 0; n <= 99; n++) {
            reads("w1;r" + n + ";", n <= 9 ? 2 : -14);
            reads("w4;r1 2 3 " + n + ";", n <= 9 ? 2 : -20);
        }
        SlabYard y = Check.told("w2;r0 9;r9 0;");
        due("0", y.cell(0, 0, 0), 0);
        due("9", y.cell(1, 0, 0), 9);
        due("9 of the next row", y.cell(0, 1, 0), 9);
        due("0 of the next row", y.cell(1, 1, 0), 0);
    }

    /** "a CELL may be one of both at most", "of l, d a Y (behind its X) at which a lid or a drain is already" */
    private static void lidsAndDrains() {
        String yard = "w2;r1 1;r1 1;";
        for (String one : new String[] {"l", "d"}) {
            for (String other : new String[] {"l", "d"}) {
                faults(yard + one + "1 0;" + other + "1 0;", 21);
                faults(yard + one + "1 0;" + other + "  1  0;", 24);
                faults(yard + one + "1 0;" + other + "1 0", 21);
                reads(yard + one + "1 0;" + other + "0 1;", 5);
                reads(yard + one + "1 0;" + other + "1 1;", 5);
                reads(yard + one + "1 0;" + other + "0 0;", 5);
            }
            for (int n = 0; n <= 99; n++) {
                reads(yard + one + n + " 0;", n <= 1 ? 4 : -24);
                reads(yard + one + "0 " + n + ";", n <= 1 ? 4 : -26);
                reads("w4;r1 1 1 1;" + one + n + " 0;", n <= 3 ? 3 : -23);
                reads("w1;r1;r1;r1;r1;" + one + "0 " + n + ";", n <= 3 ? 6 : -28);
            }
            faults("w2;" + one + "0 0;", 6);
            faults("w2;" + one + "2 0;", 4);
        }
    }

    /** As many lids and drains as there are cells. */
    private static void lidsOnAllCells() {
        StringBuilder text = new StringBuilder("w4;r1 1 1 1;r1 1 1 1;r1 1 1 1;r1 1 1 1;");
        for (int number = 0; number < 16; number++) {
            text.append(number % 2 == 0 ? 'l' : 'd').append(number % 4).append(' ').append(number / 4).append(';');
        }
        SlabYard y = Check.told(text.toString());
        for (int number = 0; number < 16; number++) {
            due("sort of " + number, y.cell(number % 4, number / 4, 1), number % 2 + 1);
        }
        due("none is free", y.now(1), 0);
        reads(text.toString(), 21);
        faults(text + "d3 3;", text.length() + 3);
    }

    /** "DOOR: a CELL (0 0 at first)" */
    private static void door() {
        due("at first", Check.told("w3;r1 1 1;r1 1 1;").count(2), 0);
        due("told", Check.told("w3;r1 1 1;r1 1 1;o2 1;").count(2), 6);
        due("told as at first", Check.told("w3;r1 1 1;r1 1 1;o0 0;").count(2), 0);
        due("on a lid", Check.told("w3;r1 1 1;l1 0;o1 0;").count(2), 1);
        due("on a drain", Check.told("w3;r1 1 1;d1 0;o1 0;").count(2), 1);
        due("a lid on it", Check.told("w3;r1 1 1;o1 0;l1 0;").cell(1, 0, 1), 1);
        due("a drain on it", Check.told("w3;r1 1 1;o1 0;d1 0;").cell(1, 0, 1), 2);
        for (int n = 0; n <= 99; n++) {
            reads("w3;r1 1 1;r1 1 1;o" + n + " 1;", n <= 2 ? 4 : -28);
            reads("w3;r1 1 1;r1 1 1;o2 " + n + ";", n <= 1 ? 4 : -30);
        }
        faults("w4;o0 0;", 6);
        due("as at first when read anew", Check.told("w1;r1;").count(2), 0);
        SlabYard y = Check.told("w3;r1 1 1;o2 0;");
        Check.type(y, "w3;r1 1 1;");
        y.yard();
        due("as at first behind another", y.count(2), 0);
    }

    /** "STOCK: so many SLABS (0 .. 20 each; 4 at first)" */
    private static void stock() {
        for (int size = 0; size <= 3; size++) {
            due("at first", Check.told("w1;r1;").stock(size), 4);
            for (int n = 0; n <= 99; n++) {
                String text = "s" + "1 ".repeat(size) + n + " 1".repeat(3 - size) + ";";
                reads(text, n <= 20 ? 1 : -11 - 2 * size);
                if (n <= 20) {
                    due("stock " + size + " of " + text, Check.told(text).stock(size), n);
                }
            }
        }
        faults("s1 2 3;", 6);
        faults("s1 2 3 4 5;", 9);
        faults("s;", 1);
        for (int size : new int[] {-1, 4, 32, Integer.MIN_VALUE, Integer.MAX_VALUE}) {
            CHECK.changesNothing("stock of size " + size, Scene.busy(), yard -> yard.stock(size), BAD);
        }
    }

    private static int[][] notThere(int wide, int rows) {
        return new int[][] {{-1, 0}, {wide, 0}, {0, -1}, {0, rows}, {wide, rows}, {-1, -1}, {4, -1}, {-4, 1}, {-1, 1},
            {4, 0}, {16, 0}, {0, 4}, {32, 0}, {0, 8}, {0, 1 << 30}, {1 << 30, 0}, {-4, 1 << 30}, {0, -1 << 30},
            {Integer.MIN_VALUE, 0}, {Integer.MAX_VALUE, 0}, {0, Integer.MIN_VALUE}, {0, Integer.MAX_VALUE}};
    }

    /** "x (0 .. WIDE less 1) and y (0 .. ROWS less 1)" of all calls that are told a cell */
    private static void cellsThatAreThere() {
        for (int wide = 1; wide <= 4; wide++) {
            for (int rows = 1; rows <= 4; rows++) {
                Scene scene = Scene.told("w" + wide + ";" + ("r" + " 5".repeat(wide) + ";").repeat(rows));
                asksThere(scene, wide - 1, rows - 1, true);
                asksThere(scene, 0, 0, true);
                for (int[] at : notThere(wide, rows)) {
                    asksThere(scene, at[0], at[1], false);
                }
            }
        }
        for (int[] at : notThere(3, 4)) {
            int x = at[0];
            int y = at[1];
            String where = "busy: " + x + " " + y;
            CHECK.changesNothing(where + " lays", Scene.busy(), yard -> yard.lays(3, x, y), BAD);
            CHECK.changesNothing(where + " lifts", Scene.busy(), yard -> yard.lifts(x, y), BAD);
            CHECK.changesNothing(where + " raises", Scene.busy(), yard -> yard.raises(x, y, 7), BAD);
            CHECK.changesNothing(where + " saw", Scene.busy(), yard -> yard.saw(x, y), BAD);
            CHECK.changesNothing(where + " mark", Scene.busy(), yard -> yard.mark(5, x, y), NO);
        }
    }

    private static void asksThere(Scene scene, int x, int y, boolean there) {
        String where = scene.made().count(0) + " by " + scene.made().count(1) + ": " + x + " " + y;
        int number = 4 * y + x;
        due(where + " cell", scene.made().cell(x, y, 0), there ? 5 : BAD);
        due(where + " lays", scene.made().lays(3, x, y), there ? 3 : BAD);
        due(where + " lifts", scene.made().lifts(x, y), there ? STATE : BAD);
        due(where + " raises", scene.made().raises(x, y, 7), there ? 5 : BAD);
        due(where + " drop", scene.made().drop(x, y, 0), there ? number : BAD);
        due(where + " feeds", scene.made().feeds(x, y), there ? 1 << number : BAD);
        due(where + " barrow", scene.made().barrow(x, y), there ? x + y : BAD);
        due(where + " saw", scene.made().saw(x, y), there ? 1 : BAD);
        due(where + " mark", scene.made().mark(0, x, y), there ? 5 : NO);
    }

    /** "has as a number 4 y and x", also where WIDE is less than 4 */
    private static void numbersOfCells() {
        for (int wide = 1; wide <= 4; wide++) {
            SlabYard y = Check.told("w" + wide + ";" + ("r" + " 5".repeat(wide) + ";").repeat(4));
            for (int c = -2; c <= 40; c++) {
                boolean there = c >= 0 && c <= 15 && c % 4 < wide;
                due("wide " + wide + " plan " + c, y.plan(c) == BAD ? 1 : 0, there || c == -1 ? 0 : 1);
            }
            y.lays(3, wide - 1, 3);
            due("upper left one", y.cell(wide - 1, 3, 3), 11 + wide);
            due("its bit", y.now(7), 1 << 11 + wide);
        }
        int[] few = new int[] {-2, 3, 7, 12 + 4, 32, 33, Integer.MIN_VALUE, Integer.MAX_VALUE};
        for (int c : few) {
            CHECK.changesNothing("plan " + c, Scene.busy(), yard -> yard.plan(c), BAD);
        }
        due("plan of a row that is not there", Check.told("w2;r1 1;").plan(4), BAD);
        due("plan of the last cell", Check.told("w2;r1 1;").plan(1), NONE);
    }

    /** "blanks (32) ahead of, between and behind TOKENS as may be (none needed where TOKENS end without)" */
    private static void blanks() {
        reads("  w  2  ;  r  1  2  ;  l  0  0  ;  o  1  0  ;  s  1  2  3  4  ;  ", 5);
        reads("w2;r1 2;l0 0;o1 0;s1 2 3 4;", 5);
        due("heights between blanks", Check.told("w  2;r  1   2 ;").cell(1, 0, 0), 2);
        faults("w2;r12;", 4);
        faults("w 2 ; x", 6);
        faults("   x", 3);
        faults("w2;r1 2 ;  9", 11);
        for (int other : new int[] {0, 9, 10, 11, 12, 13, 31, 33, 127, 160, 255}) {
            String sign = "" + (char) other;
            faults(sign, 0);
            faults(sign + "w2;", 0);
            faults("w" + sign + "2;", 1);
            faults("w2" + sign + ";", 2);
            faults("w2;" + sign, 3);
            faults("w2; " + sign + " ", 4);
        }
    }

    /** "TOKENS are letters a .. z side by side, NUMBERS and ;", "of a byte that begins none" */
    private static void firstBytes() {
        for (int c = 0; c <= 255; c++) {
            String sign = "" + (char) c;
            if (c == 'w' || c == 's') {
                faults(sign, 1);
            } else if (c == ' ') {
                reads(sign, 0);
            } else {
                faults(sign, 0);
            }
            boolean digit = c >= '0' && c <= '9';
            if (c == ';') {
                reads("w4" + sign, 1);
            } else if (c == ' ') {
                faults("w4" + sign, 3);
            } else {
                faults("w4" + sign, digit ? 1 : 2);
            }
            boolean letter = c >= 'a' && c <= 'z';
            if (c == ' ') {
                reads("w" + sign + "4;", 1);
            } else {
                faults("w" + sign + "4;", letter ? 0 : 1);
            }
        }
    }

    /** "letters that begin no ITEM" */
    private static void letters() {
        for (char c = 'a'; c <= 'z'; c++) {
            boolean known = "wrldos".indexOf(c) >= 0;
            if (!known) {
                faults(c + "1;", 0);
                faults("w1;r1;" + c + "0 0;", 6);
            }
            for (char other : new char[] {'a', 'w', 'r', 'l', 'd', 'o', 's', 'z'}) {
                faults("" + c + other + "1;", 0);
                faults("w1;r1;" + c + other + "0 0;", 6);
            }
        }
        faults("w1;r1;ld0 0;", 6);
        faults("w1;r1;l l0 0;", 8);
        faults("w1;rr1;", 3);
    }

    /** "a NUMBER above 99 or with a 0 ahead of others, that TOKEN's" */
    private static void numbersThatNeverStand() {
        String[] never = {"100", "101", "999", "1000", "00", "01", "04", "09", "010", "000", "4294967298",
            "4294967296", "2147483648", "18446744073709551617", "18446744073709551616", "0".repeat(40),
            "1".repeat(140)};
        for (String number : never) {
            faults(number, 0);
            faults("w" + number, 1);
            faults("w" + number + ";", 1);
            faults("w 2;r " + number + " 1;".substring(0, number.length() > 100 ? 0 : 3), 6);
        }
        faults("w2;r1 00;", 6);
        faults("w2;r00 1;", 4);
        faults("w2;r1 1;l00 0;", 9);
        faults("w2;r1 1;l0 00;", 11);
        faults("s1 1 1 020;", 7);
        faults("s1 1 1 120;", 7);
        faults("w2;01;", 3);
        reads("w2;r0 0;", 2);
        reads("s10 20 0 19;", 1);
        faults("w2 100", 3);
    }

    /** "each letters and what is told, ended by ;" */
    private static void endOfItems() {
        faults("w2r1 2;", 2);
        faults("w2;r1 2l0 0;", 7);
        faults("w2;;", 3);
        faults("w2;r1 2;;", 8);
        faults("w2 2;", 3);
        faults("w2;r1 2;l0 0 0;", 13);
        faults("w2;r1 2;l0;", 10);
        faults("w2;r1 2;l;", 9);
        faults("w2;r1 2;o0 0o", 12);
        faults("w;", 1);
    }

    /** "w (the first of all)", "w behind another ITEM, anything but s ahead of w" */
    private static void wFirst() {
        for (String item : new String[] {"r1;", "l0 0;", "d0 0;", "o0 0;"}) {
            faults(item, 0);
            faults(item + "w1;", 0);
            faults(" " + item, 1);
            faults("s1 1 1 1;" + item, 9);
        }
        faults("s1 1 1 1;w1;", 9);
        faults("w1;w1;", 3);
        faults("w1;r1;w1;", 6);
        faults("w1;s1 1 1 1;w1;", 12);
        faults("w1;r1;l0 0;w", 11);
    }

    /** "the next ROW; behind w, ahead of l, d, o" */
    private static void rowsAheadOfOthers() {
        for (String item : new String[] {"l0 0;", "d0 0;", "o0 0;"}) {
            faults("w2;r1 1;" + item + "r1 1;", 13);
            faults("w2;r1 1;" + item + "s1 1 1 1;r1 1;", 22);
            reads("w2;r1 1;r1 1;" + item, 4);
        }
        reads("w2;r1 1;s1 1 1 1;r1 1;", 4);
        reads("w2;s1 1 1 1;r1 1;l0 0;", 4);
    }

    /** "w, o, s once each at most" */
    private static void onceEach() {
        faults("s1 1 1 1;s1 1 1 1;", 9);
        faults("w1;s1 1 1 1;s1 1 1 1;", 12);
        faults("w1;r1;s1 1 1 1;l0 0;s1 1 1 1;", 20);
        faults("w2;r1 1;o0 0;o1 0;", 13);
        faults("w2;r1 1;o0 0;l0 0;o0 0;", 18);
        reads("w2;r1 1;l0 0;o0 0;d1 0;s1 1 1 1;", 6);
        reads("w2;r1 1;s1 1 1 1;o0 0;d1 0;l0 0;", 6);
    }

    /** "the first TOKEN that can't stand there" */
    private static void firstFaultCounts() {
        faults("w2;r1 x;l100 5", 6);
        faults("w2;x\t;", 3);
        faults("w2;\tx", 3);
        faults("w2;r1 1;l2 7;", 9);
        faults("w2;r1 1;l1 7;x", 11);
        faults("w5;r1", 1);
        faults("w2;r10 100", 4);
    }

    /** "the text's length, if it ends too early", of each beginning of a text */
    private static void tooEarly() {
        String text = " w3 ;r 1 2 3;r4 5  6; s 1 20 3 4;l 0 1;d1 1 ;o2 1; ";
        int items = 0;
        boolean inside = false;
        for (int length = 0; length <= text.length(); length++) {
            if (length > 0 && text.charAt(length - 1) == ';') {
                items++;
                inside = false;
            } else if (length > 0 && text.charAt(length - 1) != ' ') {
                inside = true;
            }
            reads(text.substring(0, length), inside ? -10 - length : items);
        }
        faults("w   ", 4);
        faults("s1 1 1", 6);
        faults("w3;r1 2 ", 8);
    }

    /** "Without w: no CELLS." */
    private static void withoutW() {
        SlabYard y = Check.told("s1 2 3 20;");
        due("wide", y.count(0), 0);
        due("rows", y.count(1), 0);
        due("cell", y.cell(0, 0, 0), BAD);
        due("lays", y.lays(3, 0, 0), BAD);
        due("plan", y.plan(-1), 0);
        due("plan of a cell", y.plan(0), BAD);
        due("stock", y.stock(3), 20);
        due("free", y.now(1), 0);
        y = Check.told("w4;");
        due("no rows: cell", y.cell(0, 0, 0), BAD);
        due("no rows: free", y.now(1), 0);
        due("no rows: from", y.from(), 0);
        due("no rows: door", y.count(2), 0);
        due("no rows: barrow", y.barrow(0, 0), BAD);
        due("no rows: mend", y.mend(0), NONE);
        due("no rows: plan", y.plan(-1), 0);
    }

    /** "-10 less FAULT: nothing changes (THE TEXT, too, stays)." */
    private static void faultsChangeNothing() {
        Scene empty = Scene.busy().then(SlabYard::clear);
        CHECK.changesNothing("fault at once", empty.type("x"), SlabYard::yard, -10);
        CHECK.changesNothing("fault in a row", empty.type("w2;r1 10;"), SlabYard::yard, -16);
        CHECK.changesNothing("fault behind all", empty.type("w1;r1;l0 0;o0 0;s1 1 1 1;;"), SlabYard::yard, -35);
        CHECK.changesNothing("fault in stock", empty.type("s0 0 0 21;"), SlabYard::yard, -17);
        CHECK.changesNothing("too early", empty.type("w4;r1 1 1 1;r1"), SlabYard::yard, -24);
        CHECK.changesNothing("too early, then more", empty.type("w1;r"), SlabYard::yard, -14);
        CHECK.changesNothing("on a new object", Scene.fresh().type("w4;r1 1 1 1;y"), SlabYard::yard, -22);
    }

    private static void textGoesOnBehindAFault() {
        SlabYard y = Scene.fresh().type("w2;r1 ").made();
        due("too early", y.yard(), -16);
        due("too early again", y.yard(), -16);
        due("goes on", y.type('7'), 7);
        due("goes on, too", y.type(';'), 8);
        due("read then", y.yard(), 2);
        due("its height", y.cell(1, 0, 0), 7);
        due("its text is empty", y.count(5), 0);
        due("read once more", y.yard(), 0);
        due("no cells then", y.count(0), 0);
    }
}
