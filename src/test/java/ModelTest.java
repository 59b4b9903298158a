/**
 * Runs of calls, told by fixed numbers, on SlabYard and on the model: all answers must be the same. No object is used
 * for more calls than the document speaks of.
 */
public final class ModelTest {
    private static final Check CHECK = new Check("ModelTest");
    private static final int RUNS = 20000;
    private static final int MOST_CALLS = 512;
    private static final int ROOM_FOR_ACT = 40;
    private static final int ROOM_FOR_TEXT = 180;
    private static final int ROOM_FOR_SWEEP = 300;

    private static long dice;
    private static int calls;
    private static SlabYard yard;
    private static Model model;
    private static String run;

    public static void main(String[] args) {
        for (int number = 0; number < RUNS && CHECK.wrongSoFar() == 0; number++) {
            dice = number * 7919L + 17;
            run(number);
        }
        allOdds();
        CHECK.end();
    }

    private static int roll(int sides) {
        dice = dice * 6364136223846793005L + 1442695040888963407L;
        return (int) Math.floorMod(dice >>> 33, (long) sides);
    }

    /** Mostly a number from 0 up, now and then one beyond the edges. */
    private static int near(int sides) {
        int luck = roll(60);
        if (luck == 0) {
            return -1;
        }
        if (luck == 1) {
            return sides;
        }
        return luck == 2 ? roll(2) == 0 ? Integer.MIN_VALUE : Integer.MAX_VALUE : roll(sides);
    }

    private static void due(String call, long got, long want) {
        calls++;
        CHECK.due(run + call, got, want);
    }

    private static boolean room(int more) {
        return calls + more <= MOST_CALLS;
    }

    private static void run(int number) {
        run = "run " + number + ": ";
        calls = 0;
        yard = new SlabYard();
        model = new Model();
        if (roll(4) == 0) {
            texts();
        } else {
            acts();
        }
        CHECK.due(run + "within so many calls", room(0) ? 1 : 0, 1);
    }

    private static void acts() {
        read(plainText());
        if (roll(10) == 0) {
            for (int days = roll(102); days > 0; days--) {
                due("day", yard.day(), model.day());
            }
        }
        int sweeps = roll(4);
        int kept = sweeps <= 1 ? ROOM_FOR_SWEEP : 0;
        while (room(ROOM_FOR_ACT + kept) && CHECK.wrongSoFar() == 0) {
            act();
        }
        if (sweeps == 0) {
            askCells();
        } else if (sweeps == 1) {
            askWays();
        }
    }

    /** Texts that are mostly wrong somewhere. */
    private static void texts() {
        while (room(ROOM_FOR_TEXT)) {
            read(roll(3) == 0 ? wildText() : broken(plainText()));
            for (int what = 0; what < 6; what++) {
                due("count " + what, yard.count(what), model.count(what));
            }
            for (int times = 0; times < 20; times++) {
                int x = near(4);
                int y = near(4);
                int what = near(5);
                due("cell " + x + " " + y + " " + what, yard.cell(x, y, what), model.cell(x, y, what));
            }
            if (roll(3) != 0) {
                due("clear", yard.clear(), model.clear());
            }
        }
    }

    private static void read(String text) {
        for (int i = 0; i < text.length(); i++) {
            due("type", yard.type(text.charAt(i)), model.type(text.charAt(i)));
        }
        due("yard of '" + text + "'", yard.yard(), model.yard());
    }

    private static String plainText() {
        StringBuilder text = new StringBuilder();
        int wide = roll(3) == 0 ? 1 + roll(4) : 4;
        int rows = roll(3) == 0 ? roll(5) : 4;
        int spread = 1 + roll(10);
        text.append('w').append(wide).append(';');
        for (int y = 0; y < rows; y++) {
            text.append('r');
            for (int x = 0; x < wide; x++) {
                text.append(' ').append(roll(spread));
            }
            text.append(';');
        }
        if (rows > 0) {
            for (int times = roll(5); times > 0; times--) {
                text.append("ldo".charAt(roll(3))).append(roll(wide)).append(' ').append(roll(rows)).append(';');
            }
        }
        if (roll(2) == 0) {
            int most = roll(2) == 0 ? 3 : 20;
            text.append('s').append(roll(most + 1)).append(' ').append(roll(most + 1));
            text.append(' ').append(roll(most + 1)).append(' ').append(roll(most + 1)).append(';');
        }
        return text.toString();
    }

    private static String broken(String plain) {
        StringBuilder text = new StringBuilder(plain);
        for (int times = roll(3); times > 0 && text.length() > 0; times--) {
            int place = roll(text.length());
            String signs = "wrldos0123459; ;;x\t";
            switch (roll(4)) {
                case 0:
                    text.deleteCharAt(place);
                    break;
                case 1:
                    text.insert(place, signs.charAt(roll(signs.length())));
                    break;
                case 2:
                    text.setCharAt(place, signs.charAt(roll(signs.length())));
                    break;
                default:
                    text.setLength(place);
                    break;
            }
        }
        return text.toString();
    }

    private static String wildText() {
        String[] items = {"w4;", "w2;", "r1 2;", "r1 2 3 4;", "l0 0;", "l1 1;", "d0 0;", "d1 0;", "o1 1;",
            "o0 0;", "s1 2 3 4;", "s 20 0 0 1 ;", ";", "x", " ", "r01 2;", "w 2 ;", "l 1 0;", "100", "\u00ff"};
        StringBuilder text = new StringBuilder(roll(3) == 0 ? "" : "w2;r5 5;");
        for (int times = roll(8); times > 0; times--) {
            text.append(items[roll(items.length)]);
        }
        return text.toString();
    }

    /** One call that changes something, or one that asks; the dearest ones seldom. */
    private static void act() {
        int x = near(4);
        int y = near(4);
        switch (roll(24)) {
            case 0: case 1: case 2: case 3: case 4: case 5: case 6: case 7: case 8: case 9:
                int size = near(4);
                due("lays " + size + " " + x + " " + y, yard.lays(size, x, y), model.lays(size, x, y));
                break;
            case 10: case 11:
                due("lifts " + x + " " + y, yard.lifts(x, y), model.lifts(x, y));
                break;
            case 12: case 13: case 14:
                int h = near(10);
                due("raises " + x + " " + y + " " + h, yard.raises(x, y, h), model.raises(x, y, h));
                break;
            case 15:
                due("day", yard.day(), model.day());
                break;
            case 16:
                for (int times = roll(4) == 0 ? 11 : 1 + roll(3); times > 0; times--) {
                    due("undo", yard.undo(), model.undo());
                }
                break;
            case 17:
                due("saw " + x + " " + y, yard.saw(x, y), model.saw(x, y));
                break;
            case 18:
                images();
                break;
            case 19:
                int kind = near(6);
                due("mark " + kind + " " + x + " " + y, yard.mark(kind, x, y), model.mark(kind, x, y));
                break;
            default:
                ask(x, y);
                break;
        }
    }

    private static void images() {
        int image = near(2);
        if (roll(2) == 0) {
            due("keep " + image, yard.keep(image), model.keep(image));
        } else {
            due("back " + image, yard.back(image), model.back(image));
        }
        if (roll(8) == 0) {
            due("forget", yard.forget(), model.forget());
        }
        if (roll(10) == 0 && room(ROOM_FOR_TEXT + ROOM_FOR_SWEEP)) {
            read(plainText());
        }
    }

    private static void ask(int x, int y) {
        int what = near(8);
        due("now " + what, yard.now(what), model.now(what));
        due("cell " + what, yard.cell(x, y, what), model.cell(x, y, what));
        due("count " + what, yard.count(what), model.count(what));
        due("stock " + what, yard.stock(what), model.stock(what));
        due("drop " + x + " " + y, yard.drop(x, y, 0), model.drop(x, y, 0));
        due("steps " + x + " " + y, yard.drop(x, y, 1), model.drop(x, y, 1));
        due("feeds " + x + " " + y, yard.feeds(x, y), model.feeds(x, y));
        due("barrow " + x + " " + y, yard.barrow(x, y), model.barrow(x, y));
        due("from", yard.from(), model.from());
        due("trace", yard.trace(), model.trace());
        if (roll(5) == 0) {
            due("mend 0", yard.mend(0), model.mend(0));
            due("mend 1", yard.mend(1), model.mend(1));
            due("mend 2", yard.mend(2), model.mend(2));
        }
        if (Integer.bitCount(model.now(1)) < 10 || roll(300) == 0) {
            due("plan -1", yard.plan(-1), model.plan(-1));
            for (int c = 0; c < 16; c++) {
                due("plan " + c, yard.plan(c), model.plan(c));
            }
        }
    }

    private static void askCells() {
        for (int x = -1; x <= 4; x++) {
            for (int y = -1; y <= 4; y++) {
                for (int what = -1; what <= 5; what++) {
                    due("cell " + x + " " + y + " " + what, yard.cell(x, y, what), model.cell(x, y, what));
                }
            }
        }
    }

    private static void askWays() {
        for (int x = -1; x <= 4; x++) {
            for (int y = -1; y <= 4; y++) {
                due("feeds " + x + " " + y, yard.feeds(x, y), model.feeds(x, y));
                due("barrow " + x + " " + y, yard.barrow(x, y), model.barrow(x, y));
                for (int what = -1; what <= 2; what++) {
                    due("drop " + x + " " + y + " " + what, yard.drop(x, y, what), model.drop(x, y, what));
                }
            }
        }
        for (int what = -1; what <= 8; what++) {
            due("now " + what, yard.now(what), model.now(what));
            due("count " + what, yard.count(what), model.count(what));
            due("stock " + what, yard.stock(what), model.stock(what));
            due("mend " + what, yard.mend(what), model.mend(what));
        }
        due("from", yard.from(), model.from());
        due("trace", yard.trace(), model.trace());
    }

    private static void allOdds() {
        for (int x = -1; x <= 11; x++) {
            for (int n = -1; n <= 7; n++) {
                run = "odds of " + x + " " + n + ": ";
                calls = 0;
                yard = new SlabYard();
                model = new Model();
                for (int k = -1; k <= 7; k++) {
                    for (int what = -1; what <= 2; what++) {
                        due(k + " " + what, yard.odds(x, n, k, what), model.odds(x, n, k, what));
                    }
                }
            }
        }
    }
}
