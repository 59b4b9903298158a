import java.util.ArrayDeque;
import java.util.ArrayList;
import java.util.Deque;
import java.util.HashMap;
import java.util.List;
import java.util.Map;

/**
 * The document once more, word by word and by plain search, to hold against SlabYard in long runs:
 * whole copies instead of what undoes, all ways instead of bounds, cells by x and y instead of bits.
 */
final class Model {
    static final int BAD = -1, STATE = -2, FULL = -3, NONE = -9, NO = -1000000;

    /** UP, RIGHT, DOWN, LEFT. */
    private static final int[][] BESIDE = {{0, -1}, {1, 0}, {0, 1}, {-1, 0}};

    /** A slab: its size, its upper left cell, whether it is today's. */
    record Slab(int size, int x, int y, boolean today) {
        int wide() {
            return size < 2 ? 2 : 1;
        }

        int high() {
            return size % 2 == 0 ? 2 : 1;
        }

        boolean on(int cx, int cy) {
            return cx >= x && cx < x + wide() && cy >= y && cy < y + high();
        }

        boolean touches(Slab other) {
            for (int cx = x; cx < x + wide(); cx++) {
                for (int cy = y; cy < y + high(); cy++) {
                    for (int[] side : BESIDE) {
                        if (other.on(cx + side[0], cy + side[1])) {
                            return true;
                        }
                    }
                }
            }
            return false;
        }

        Slab older() {
            return new Slab(size, x, y, false);
        }
    }

    /** What an image keeps, but for what may be undone. */
    private static final class Moment {
        int[][] height = new int[4][4];
        List<Slab> slabs = new ArrayList<>();
        int[] stock = {4, 4, 4, 4};
        int days = 0;

        Moment copy() {
            Moment other = new Moment();
            for (int x = 0; x < 4; x++) {
                other.height[x] = height[x].clone();
            }
            other.slabs = new ArrayList<>(slabs);
            other.stock = stock.clone();
            other.days = days;
            return other;
        }
    }

    private record Image(Moment moment, List<Moment> undoable) {
    }

    private static final class Fault extends Exception {
        private static final long serialVersionUID = 1L;
        final int place;

        Fault(int place) {
            this.place = place;
        }
    }

    private record Token(char sort, String text, int place) {
    }

    private StringBuilder text = new StringBuilder();
    private int wide = 0;
    private int rows = 0;
    private int doorX = 0;
    private int doorY = 0;
    private boolean[][] lid = new boolean[4][4];
    private boolean[][] drain = new boolean[4][4];
    private Moment at = new Moment();
    private List<Moment> undoable = new ArrayList<>();
    private Image[] images = new Image[2];
    private List<int[]> seen = new ArrayList<>();
    private long trace = 0;
    private final Map<String, int[]> plansKnown = new HashMap<>();

    // ---- the yard

    int type(int c) {
        if (c < 0 || c > 255) {
            return BAD;
        }
        if (text.length() == 150) {
            return FULL;
        }
        text.append((char) c);
        return text.length();
    }

    int clear() {
        int had = text.length();
        text = new StringBuilder();
        return had;
    }

    private List<Token> tokens() {
        List<Token> tokens = new ArrayList<>();
        int i = 0;
        while (i < text.length()) {
            int begin = i;
            char c = text.charAt(i);
            String sort = sortOf(c);
            i++;
            if (sort.equals("letter") || sort.equals("digit")) {
                while (i < text.length() && sortOf(text.charAt(i)).equals(sort)) {
                    i++;
                }
            }
            if (!sort.equals("blank")) {
                tokens.add(new Token(sort.charAt(0), text.substring(begin, i), begin));
            }
        }
        tokens.add(new Token('e', "", text.length()));
        return tokens;
    }

    private static String sortOf(char c) {
        if (c >= 'a' && c <= 'z') {
            return "letter";
        }
        if (c >= '0' && c <= '9') {
            return "digit";
        }
        return c == ' ' ? "blank" : c == ';' ? "stop" : "wrong";
    }

    private static int number(Token token, int low, int high) throws Fault {
        boolean plain = token.text.equals("0") || token.text.matches("[1-9][0-9]?");
        if (token.sort != 'd' || !plain) {
            throw new Fault(token.place);
        }
        int value = Integer.parseInt(token.text);
        if (value < low || value > high) {
            throw new Fault(token.place);
        }
        return value;
    }

    int yard() {
        Model fresh = new Model();
        int items;
        try {
            items = fresh.readItems(tokens());
        } catch (Fault fault) {
            return -10 - fault.place;
        }
        text = new StringBuilder();
        wide = fresh.wide;
        rows = fresh.rows;
        doorX = fresh.doorX;
        doorY = fresh.doorY;
        lid = fresh.lid;
        drain = fresh.drain;
        at = fresh.at;
        undoable = fresh.undoable;
        images = fresh.images;
        seen = fresh.seen;
        return items;
    }

    private int readItems(List<Token> tokens) throws Fault {
        int items = 0;
        int i = 0;
        StringBuilder told = new StringBuilder();
        while (tokens.get(i).sort != 'e') {
            Token begin = tokens.get(i);
            String item = begin.text;
            boolean known = begin.sort == 'l' && item.length() == 1 && "wrldos".contains(item);
            boolean late = item.equals("w") && items > 0;
            boolean early = !item.equals("w") && !item.equals("s") && wide == 0;
            boolean again = (item.equals("o") || item.equals("s")) && told.indexOf(item) >= 0;
            boolean noRow = item.equals("r") && (rows == 4 || told.toString().matches(".*[ldo].*"));
            if (!known || late || early || again || noRow) {
                throw new Fault(begin.place);
            }
            i = readItem(item.charAt(0), tokens, i + 1);
            if (tokens.get(i).sort != 's') {
                throw new Fault(tokens.get(i).place);
            }
            i++;
            items++;
            told.append(item);
        }
        return items;
    }

    private int readItem(char item, List<Token> tokens, int first) throws Fault {
        int i = first;
        if (item == 'w') {
            wide = number(tokens.get(i++), 1, 4);
        } else if (item == 'r') {
            for (int x = 0; x < wide; x++) {
                at.height[x][rows] = number(tokens.get(i++), 0, 9);
            }
            rows++;
        } else if (item == 's') {
            for (int size = 0; size < 4; size++) {
                at.stock[size] = number(tokens.get(i++), 0, 20);
            }
        } else {
            int x = number(tokens.get(i++), 0, wide - 1);
            Token behind = tokens.get(i++);
            int y = number(behind, 0, rows - 1);
            if (item == 'o') {
                doorX = x;
                doorY = y;
            } else if (lid[x][y] || drain[x][y]) {
                throw new Fault(behind.place);
            } else if (item == 'l') {
                lid[x][y] = true;
            } else {
                drain[x][y] = true;
            }
        }
        return i;
    }

    private boolean there(int x, int y) {
        return x >= 0 && x < wide && y >= 0 && y < rows;
    }

    private Slab slabOn(int x, int y) {
        for (Slab slab : at.slabs) {
            if (slab.on(x, y)) {
                return slab;
            }
        }
        return null;
    }

    private boolean free(int x, int y) {
        return there(x, y) && !lid[x][y] && !drain[x][y] && slabOn(x, y) == null;
    }

    int cell(int x, int y, int what) {
        if (!there(x, y) || what < 0 || what > 4) {
            return BAD;
        }
        Slab slab = slabOn(x, y);
        return switch (what) {
            case 0 -> at.height[x][y];
            case 1 -> lid[x][y] ? 1 : drain[x][y] ? 2 : 0;
            case 2 -> slab == null ? NONE : slab.size;
            case 3 -> slab == null ? NONE : 4 * slab.y + slab.x;
            default -> slab != null && slab.today ? 1 : 0;
        };
    }

    // ---- what is done

    private void remember() {
        undoable.add(at.copy());
        if (undoable.size() > 10) {
            undoable.remove(0);
        }
    }

    int lays(int size, int x, int y) {
        if (size < 0 || size > 3 || !there(x, y)) {
            return BAD;
        }
        Slab slab = new Slab(size, x, y, true);
        boolean may = at.stock[size] > 0;
        for (int cx = x; cx < x + slab.wide(); cx++) {
            for (int cy = y; cy < y + slab.high(); cy++) {
                may = may && free(cx, cy);
            }
        }
        if (!may) {
            return STATE;
        }
        remember();
        at.slabs.add(slab);
        return --at.stock[size];
    }

    int lifts(int x, int y) {
        if (!there(x, y)) {
            return BAD;
        }
        Slab slab = slabOn(x, y);
        if (slab == null) {
            return STATE;
        }
        remember();
        at.slabs.remove(slab);
        at.stock[slab.size]++;
        return slab.size;
    }

    int raises(int x, int y, int h) {
        if (!there(x, y) || h < 0 || h > 9) {
            return BAD;
        }
        int had = at.height[x][y];
        if (drain[x][y] || had == h) {
            return STATE;
        }
        remember();
        at.height[x][y] = h;
        return had;
    }

    int day() {
        if (at.days == 99) {
            return STATE;
        }
        remember();
        at.slabs.replaceAll(Slab::older);
        return ++at.days;
    }

    int undo() {
        if (undoable.isEmpty()) {
            return STATE;
        }
        at = undoable.remove(undoable.size() - 1);
        return undoable.size();
    }

    int now(int what) {
        return switch (what) {
            case 0 -> at.days;
            case 1 -> bitsWhere((x, y) -> free(x, y));
            case 2 -> at.slabs.size();
            case 3 -> puddles();
            case 4 -> crosses();
            case 5 -> seam();
            case 6 -> alike();
            case 7 -> bitsWhere((x, y) -> slabOn(x, y) != null && slabOn(x, y).today);
            default -> BAD;
        };
    }

    private interface Question {
        boolean holds(int x, int y);
    }

    private int bitsWhere(Question question) {
        int bits = 0;
        for (int y = 0; y < rows; y++) {
            for (int x = 0; x < wide; x++) {
                if (question.holds(x, y)) {
                    bits |= 1 << 4 * y + x;
                }
            }
        }
        return bits;
    }

    private int crosses() {
        int crosses = 0;
        for (int y = 1; y < rows; y++) {
            for (int x = 1; x < wide; x++) {
                List<Slab> met = new ArrayList<>();
                for (int i = 0; i < 4; i++) {
                    Slab slab = slabOn(x - i % 2, y - i / 2);
                    if (slab != null && !met.contains(slab)) {
                        met.add(slab);
                    }
                }
                if (met.size() == 4) {
                    crosses++;
                }
            }
        }
        return crosses;
    }

    private boolean seamBetween(int x, int y, int otherX, int otherY) {
        Slab one = slabOn(x, y);
        Slab other = slabOn(otherX, otherY);
        return one != null && other != null && one != other;
    }

    private int seam() {
        int longest = 0;
        for (int line = 1; line < 4; line++) {
            int upright = 0;
            int level = 0;
            for (int along = 0; along < 4; along++) {
                upright = seamBetween(line - 1, along, line, along) ? upright + 1 : 0;
                level = seamBetween(along, line - 1, along, line) ? level + 1 : 0;
                longest = Math.max(longest, Math.max(upright, level));
            }
        }
        return longest;
    }

    private int alike() {
        int twos = 0;
        for (int i = 0; i < at.slabs.size(); i++) {
            for (int j = 0; j < i; j++) {
                Slab one = at.slabs.get(i);
                Slab other = at.slabs.get(j);
                if (one.size == other.size && one.touches(other)) {
                    twos++;
                }
            }
        }
        return twos;
    }

    int stock(int size) {
        return size < 0 || size > 3 ? BAD : at.stock[size];
    }

    // ---- water

    private int level(int x, int y) {
        return drain[x][y] ? -1 : at.height[x][y];
    }

    /** The cells on the way of a drop, in order. */
    private List<Integer> way(int fromX, int fromY) {
        List<Integer> way = new ArrayList<>();
        int x = fromX;
        int y = fromY;
        while (true) {
            way.add(4 * y + x);
            int nextX = x;
            int nextY = y;
            for (int[] side : BESIDE) {
                int cx = x + side[0];
                int cy = y + side[1];
                if (there(cx, cy) && !lid[cx][cy] && level(cx, cy) < level(nextX, nextY)) {
                    nextX = cx;
                    nextY = cy;
                }
            }
            if (nextX == x && nextY == y) {
                return way;
            }
            x = nextX;
            y = nextY;
        }
    }

    private int end(int x, int y) {
        List<Integer> way = way(x, y);
        return way.get(way.size() - 1);
    }

    private int puddles() {
        int[] ends = {0};
        bitsWhere((x, y) -> {
            if (!lid[x][y]) {
                ends[0] |= 1 << end(x, y);
            }
            return false;
        });
        return ends[0] & ~bitsWhere((x, y) -> drain[x][y]);
    }

    int drop(int x, int y, int what) {
        if (!there(x, y) || lid[x][y] || what < 0 || what > 1) {
            return BAD;
        }
        return what == 0 ? end(x, y) : way(x, y).size() - 1;
    }

    int feeds(int toX, int toY) {
        if (!there(toX, toY) || lid[toX][toY]) {
            return BAD;
        }
        return bitsWhere((x, y) -> !lid[x][y] && end(x, y) == 4 * toY + toX);
    }

    int mend(int what) {
        if (what < 0 || what > 2) {
            return BAD;
        }
        List<int[]> ways = new ArrayList<>();
        int had = Integer.bitCount(puddles());
        for (int y = 0; y < rows; y++) {
            for (int x = 0; x < wide; x++) {
                if (lid[x][y] || drain[x][y]) {
                    continue;
                }
                int own = at.height[x][y];
                for (int h = 0; h <= 9; h++) {
                    at.height[x][y] = h;
                    int left = Integer.bitCount(puddles());
                    if (h != own && left < had) {
                        ways.add(new int[] {left, Math.abs(h - own), 4 * y + x, h});
                    }
                }
                at.height[x][y] = own;
            }
        }
        if (ways.isEmpty()) {
            return NONE;
        }
        ways.sort(java.util.Arrays::compare);
        int[] best = ways.get(0);
        return what == 0 ? best[2] : what == 1 ? best[3] : best[0];
    }

    // ---- plans, ways

    /** The sizes by cells, and behind them how many slabs; null if there is no way. */
    private int[] bestPlan() {
        String key = wide + " " + rows + " " + now(1) + java.util.Arrays.toString(at.stock) + " ";
        for (int c = 0; c < 16; c++) {
            key += cell(c % 4, c / 4, 3) + ",";
        }
        if (!plansKnown.containsKey(key)) {
            List<Slab> had = new ArrayList<>(at.slabs);
            int[] stock = at.stock.clone();
            int[][] best = new int[1][];
            int[] plan = new int[17];
            java.util.Arrays.fill(plan, 0, 16, NONE);
            layAll(plan, best);
            at.slabs = had;
            at.stock = stock;
            plansKnown.put(key, best[0]);
        }
        return plansKnown.get(key);
    }

    private void layAll(int[] plan, int[][] best) {
        int free = now(1);
        if (free == 0) {
            if (crosses() == 0 && (best[0] == null || plan[16] < best[0][16])) {
                best[0] = plan.clone();
            }
            return;
        }
        int first = Integer.numberOfTrailingZeros(free);
        for (int size = 0; size < 4; size++) {
            List<Moment> kept = undoable;
            undoable = new ArrayList<>();
            if (lays(size, first % 4, first / 4) >= 0) {
                plan[first] = size;
                plan[16]++;
                layAll(plan, best);
                plan[16]--;
                plan[first] = NONE;
                at.slabs.remove(at.slabs.size() - 1);
                at.stock[size]++;
            }
            undoable = kept;
        }
    }

    int plan(int c) {
        if (c != -1 && (c < 0 || !there(c % 4, c / 4))) {
            return BAD;
        }
        int[] best = bestPlan();
        return best == null ? NONE : best[c == -1 ? 16 : c];
    }

    int barrow(int toX, int toY) {
        if (!there(toX, toY) || lid[toX][toY]) {
            return BAD;
        }
        if (lid[doorX][doorY] || cell(doorX, doorY, 4) == 1) {
            return NONE;
        }
        Map<Integer, Integer> steps = new HashMap<>();
        Deque<int[]> next = new ArrayDeque<>();
        steps.put(4 * doorY + doorX, 0);
        next.add(new int[] {doorX, doorY});
        while (!next.isEmpty()) {
            int[] here = next.remove();
            int walked = steps.get(4 * here[1] + here[0]);
            if (here[0] == toX && here[1] == toY) {
                return walked;
            }
            for (int[] side : BESIDE) {
                int x = here[0] + side[0];
                int y = here[1] + side[1];
                boolean may = there(x, y) && !lid[x][y] && (cell(x, y, 4) == 0 || x == toX && y == toY);
                if (may && !steps.containsKey(4 * y + x)) {
                    steps.put(4 * y + x, walked + 1);
                    next.add(new int[] {x, y});
                }
            }
        }
        return NONE;
    }

    int odds(int x, int n, int k, int what) {
        if (x < 0 || x > 10 || n < 0 || n > 6 || k < 0 || k > 6 || what < 0 || what > 1) {
            return BAD;
        }
        // Slab by slab: by[w] is by how many of the tenths w are whole.
        long[] by = new long[8];
        by[0] = 1;
        long lower = 1;
        for (int slab = 0; slab < n; slab++) {
            long[] then = new long[8];
            for (int whole = 0; whole <= slab; whole++) {
                then[whole] += by[whole] * x;
                then[whole + 1] += by[whole] * (10 - x);
            }
            by = then;
            lower *= 10;
        }
        long upper = 0;
        for (int whole = k; whole < 8; whole++) {
            upper += by[whole];
        }
        for (int divisor = 2; divisor <= 5; divisor += 3) {
            while (lower % divisor == 0 && upper % divisor == 0) {
                lower /= divisor;
                upper /= divisor;
            }
        }
        return (int) (upper == 0 ? what : what == 0 ? upper : lower);
    }

    // ---- what was wet

    int saw(int x, int y) {
        if (!there(x, y) || lid[x][y]) {
            return BAD;
        }
        if (seen.size() == 6) {
            return FULL;
        }
        seen.add(new int[] {x, y});
        return seen.size();
    }

    int forget() {
        int had = seen.size();
        seen.clear();
        return had;
    }

    int from() {
        return bitsWhere((x, y) -> {
            if (lid[x][y]) {
                return false;
            }
            List<Integer> way = way(x, y);
            for (int[] wet : seen) {
                if (!way.contains(4 * wet[1] + wet[0])) {
                    return false;
                }
            }
            return true;
        });
    }

    // ---- kinds, images

    int mark(int kind, int x, int y) {
        if (kind < 0 || kind > 5 || !there(x, y)) {
            return NO;
        }
        int[] traces = {1, 10, 100, 1000, 10000, 100000};
        int[] above = {-1, 0, 0, 1, 2, 0};
        trace += traces[kind];
        int up = kind == 0 ? 0 : mark(above[kind], x, y);
        int there = 0;
        for (int[] side : BESIDE) {
            there += there(x + side[0], y + side[1]) ? 1 : 0;
        }
        return switch (kind) {
            case 0 -> at.height[x][y];
            case 1 -> up + there;
            case 2 -> up - x;
            case 3 -> up * 2;
            case 4 -> up + y;
            default -> up + at.days;
        };
    }

    int keep(int image) {
        if (image < 0 || image > 1) {
            return BAD;
        }
        images[image] = new Image(at.copy(), copies(undoable));
        return at.days;
    }

    int back(int image) {
        if (image < 0 || image > 1) {
            return BAD;
        }
        if (images[image] == null) {
            return STATE;
        }
        at = images[image].moment.copy();
        undoable = copies(images[image].undoable);
        return at.days;
    }

    private static List<Moment> copies(List<Moment> moments) {
        List<Moment> copies = new ArrayList<>();
        for (Moment moment : moments) {
            copies.add(moment.copy());
        }
        return copies;
    }

    int count(int what) {
        return switch (what) {
            case 0 -> wide;
            case 1 -> rows;
            case 2 -> 4 * doorY + doorX;
            case 3 -> seen.size();
            case 4 -> undoable.size();
            case 5 -> text.length();
            default -> BAD;
        };
    }

    long trace() {
        return trace;
    }
}
