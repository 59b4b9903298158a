/**
 * A yard of cells that shed the rain, and the slabs that lie on it. What each call answers is
 * said by the document, promise by promise. Sets of cells are held as bits by the cells' numbers
 * (4 y and x), so that a bit's neighbours are one shift away.
 */
public final class SlabYard {
    public static final int BAD = -1, STATE = -2, FULL = -3, NONE = -9;
    public static final int NO = -1000000;

    private static final int MOST_BYTES = 150;
    private static final int FAULT_BASE = -10;
    private static final int SIDE = 4;
    private static final int CELLS = 16;
    private static final int SIZES = 4;
    private static final int FIRST_STOCK = 4;
    private static final int MOST_STOCK = 20;
    private static final int MOST_HEIGHT = 9;
    private static final int MOST_DAYS = 99;
    private static final int MOST_DONE = 10;
    private static final int MOST_SEEN = 6;
    private static final int MOST_ODDS = 6;
    private static final int IMAGES = 2;

    private static final int ALL_CELLS = 0xFFFF;
    private static final int HAVE_RIGHT = 0x7777;
    private static final int HAVE_LEFT = 0xEEEE;
    private static final int HAVE_DOWN = 0x0FFF;

    // By SIZE, for a slab with cell 0 as its upper left one.
    private static final int[] SHAPES = {0x33, 0x03, 0x11, 0x01};
    private static final int[] WIDTHS = {2, 2, 1, 1};
    // Cells that lie under one slab together with the cell right of them, below them.
    private static final int[] JOINED_RIGHT = {0x11, 0x01, 0x00, 0x00};
    private static final int[] JOINED_DOWN = {0x03, 0x00, 0x01, 0x00};

    private final Reader reader;
    private final Plot plot;
    private final Ground ground;
    private final Ground firstImage;
    private final Ground secondImage;
    private final Water water;
    private final Mender mender;
    private final Planner planner;
    private int keptImages;
    private int seenCells;
    private int seenCount;
    private long traced;

    public SlabYard() {
        reader = new Reader();
        plot = new Plot();
        ground = new Ground();
        firstImage = new Ground();
        secondImage = new Ground();
        water = new Water();
        mender = new Mender();
        planner = new Planner();
    }

    // ---- the yard

    public int type(int c) {
        if (c < 0 || c > 255) {
            return BAD;
        }
        return reader.take(c) ? reader.length : FULL;
    }

    public int clear() {
        int had = reader.length;
        reader.length = 0;
        return had;
    }

    public int yard() {
        int items = reader.readAll();
        if (items < 0) {
            return items;
        }
        plot.copyFrom(reader.told);
        ground.startOn(plot);
        reader.length = 0;
        keptImages = 0;
        seenCells = 0;
        seenCount = 0;
        return items;
    }

    public int cell(int x, int y, int what) {
        if (!plot.has(x, y) || what < 0 || what > 4) {
            return BAD;
        }
        int number = numberOf(x, y);
        int slab = ground.slabOn(number);
        switch (what) {
            case 0:
                return ground.heightOf(number);
            case 1:
                return plot.sortOf(number);
            case 2:
                return ground.sizeOf(slab);
            case 3:
                return slab;
            default:
                return ground.isTodays(slab) ? 1 : 0;
        }
    }

    // ---- what is done

    public int lays(int size, int x, int y) {
        if (!isSize(size) || !plot.has(x, y)) {
            return BAD;
        }
        int number = numberOf(x, y);
        if (ground.stock[size] <= 0 || !fits(size, number, freeCells())) {
            return STATE;
        }
        ground.lay(size, number);
        return ground.stock[size];
    }

    public int lifts(int x, int y) {
        if (!plot.has(x, y)) {
            return BAD;
        }
        int slab = ground.slabOn(numberOf(x, y));
        if (slab == NONE) {
            return STATE;
        }
        return ground.lift(slab);
    }

    public int raises(int x, int y, int h) {
        if (!plot.has(x, y) || h < 0 || h > MOST_HEIGHT) {
            return BAD;
        }
        int number = numberOf(x, y);
        if (holds(plot.drains, number) || ground.heightOf(number) == h) {
            return STATE;
        }
        return ground.raise(number, h);
    }

    public int day() {
        if (ground.days >= MOST_DAYS) {
            return STATE;
        }
        ground.passDay();
        return ground.days;
    }

    public int undo() {
        return ground.goBack() ? ground.done : STATE;
    }

    public int now(int what) {
        switch (what) {
            case 0:
                return ground.days;
            case 1:
                return freeCells();
            case 2:
                return ground.slabCount();
            case 3:
                water.fill(plot, ground);
                return water.puddles();
            case 4:
                return Integer.bitCount(
                    crossPoints(ground.covered(), ground.joined(JOINED_RIGHT), ground.joined(JOINED_DOWN)));
            case 5:
                return longestSeam(ground.covered(), ground.joined(JOINED_RIGHT), ground.joined(JOINED_DOWN));
            case 6:
                return ground.alikePairs();
            case 7:
                return ground.todaysCells();
            default:
                return BAD;
        }
    }

    public int stock(int size) {
        return isSize(size) ? ground.stock[size] : BAD;
    }

    // ---- water

    public int drop(int x, int y, int what) {
        if (!plot.isOpen(x, y) || what < 0 || what > 1) {
            return BAD;
        }
        water.fill(plot, ground);
        int number = numberOf(x, y);
        return what == 0 ? water.endOf(number) : Integer.bitCount(water.wayOf(number)) - 1;
    }

    public int feeds(int x, int y) {
        if (!plot.isOpen(x, y)) {
            return BAD;
        }
        water.fill(plot, ground);
        int end = numberOf(x, y);
        int open = plot.cells() & ~plot.lids;
        int feeding = 0;
        for (int number = 0; number < CELLS; number++) {
            if (holds(open, number) && water.endOf(number) == end) {
                feeding |= 1 << number;
            }
        }
        return feeding;
    }

    public int mend(int what) {
        if (what < 0 || what > 2) {
            return BAD;
        }
        water.fill(plot, ground);
        mender.search(water);
        if (mender.best == NONE) {
            return NONE;
        }
        switch (what) {
            case 0:
                return mender.best;
            case 1:
                return mender.height;
            default:
                return mender.puddlesLeft;
        }
    }

    // ---- plans, ways

    public int plan(int c) {
        if (c != -1 && !(isNumber(c) && holds(plot.cells(), c))) {
            return BAD;
        }
        planner.search(plot, ground);
        if (planner.fewest == NONE) {
            return NONE;
        }
        return isNumber(c) ? planner.chosen[c] : planner.fewest;
    }

    public int barrow(int x, int y) {
        if (!plot.isOpen(x, y)) {
            return BAD;
        }
        int target = 1 << numberOf(x, y);
        int reached = 1 << plot.door;
        int ways = plot.cells() & ~plot.lids & ~ground.todaysCells();
        if ((reached & ways) == 0) {
            return NONE;
        }
        for (int steps = 0; steps < CELLS; steps++) {
            if ((reached & target) != 0) {
                return steps;
            }
            reached |= beside(reached) & (ways | target);
        }
        return NONE;
    }

    public int odds(int x, int n, int k, int what) {
        if (x < 0 || x > 10 || n < 0 || n > MOST_ODDS || k < 0 || k > MOST_ODDS || what < 0 || what > 1) {
            return BAD;
        }
        int all = power(10, n);
        int upper = 0;
        for (int whole = k; whole <= n; whole++) {
            upper += choices(n, whole) * power(10 - x, whole) * power(x, n - whole);
        }
        int shared = commonDivisor(all, upper);
        if (shared <= 0) {
            return BAD;
        }
        return what == 0 ? upper / shared : all / shared;
    }

    // ---- what was wet

    public int saw(int x, int y) {
        if (!plot.isOpen(x, y)) {
            return BAD;
        }
        if (seenCount >= MOST_SEEN) {
            return FULL;
        }
        seenCells |= 1 << numberOf(x, y);
        seenCount++;
        return seenCount;
    }

    public int forget() {
        int had = seenCount;
        seenCells = 0;
        seenCount = 0;
        return had;
    }

    public int from() {
        water.fill(plot, ground);
        int open = plot.cells() & ~plot.lids;
        int origins = 0;
        for (int number = 0; number < CELLS; number++) {
            if (holds(open, number) && (seenCells & ~water.wayOf(number)) == 0) {
                origins |= 1 << number;
            }
        }
        return origins;
    }

    // ---- kinds, images

    public int mark(int kind, int x, int y) {
        if (!plot.has(x, y)) {
            return NO;
        }
        int number = numberOf(x, y);
        switch (kind) {
            case 0:
                return markCell(number);
            case 1:
                return markTrue(number);
            case 2:
                return markLow(number);
            case 3:
                return markRocking(number);
            case 4:
                return markCut(number);
            case 5:
                return markWet(number);
            default:
                return NO;
        }
    }

    public int keep(int image) {
        if (image < 0 || image >= IMAGES) {
            return BAD;
        }
        imageOf(image).copyFrom(ground);
        keptImages |= 1 << image;
        return ground.days;
    }

    public int back(int image) {
        if (image < 0 || image >= IMAGES) {
            return BAD;
        }
        if (!holds(keptImages, image)) {
            return STATE;
        }
        ground.copyFrom(imageOf(image));
        return ground.days;
    }

    public int count(int what) {
        switch (what) {
            case 0:
                return plot.wide;
            case 1:
                return plot.rows;
            case 2:
                return plot.door;
            case 3:
                return seenCount;
            case 4:
                return ground.done;
            case 5:
                return reader.length;
            default:
                return BAD;
        }
    }

    public long trace() {
        return traced;
    }

    // ---- the bodies of the kinds

    private int markCell(int number) {
        traced += 1;
        return ground.heightOf(number);
    }

    private int markTrue(int number) {
        traced += 10;
        return markCell(number) + Integer.bitCount(beside(1 << number) & plot.cells());
    }

    private int markLow(int number) {
        traced += 100;
        return markCell(number) - number % SIDE;
    }

    private int markRocking(int number) {
        traced += 1000;
        return markTrue(number) * 2;
    }

    private int markCut(int number) {
        traced += 10000;
        return markLow(number) + number / SIDE;
    }

    private int markWet(int number) {
        traced += 100000;
        return markCell(number) + ground.days;
    }

    // ---- helpers

    private Ground imageOf(int image) {
        return image == 0 ? firstImage : secondImage;
    }

    private int freeCells() {
        return plot.layable() & ~ground.covered();
    }

    private static int numberOf(int x, int y) {
        return SIDE * y + x;
    }

    private static boolean holds(int bits, int number) {
        return (bits >> number & 1) != 0;
    }

    /** The cells up, right, down and left of these. */
    private static int beside(int cells) {
        return (cells << SIDE | cells >> SIDE | (cells & HAVE_RIGHT) << 1 | (cells & HAVE_LEFT) >> 1) & ALL_CELLS;
    }

    private static boolean isSize(int size) {
        return size >= 0 && size < SIZES;
    }

    private static boolean isNumber(int number) {
        return number >= 0 && number < CELLS;
    }

    /** The bits that a table has by SIZE, for a slab that lies there. */
    private static int bitsAt(int[] bitsBySize, int size, int number) {
        return size >= 0 && size < bitsBySize.length ? bitsBySize[size] << number : 0;
    }

    /** The width is looked at for itself: the bits of a slab that is too wide run on in the next row. */
    private static boolean fits(int size, int number, int free) {
        return isSize(size) && isNumber(number) && number % SIDE + WIDTHS[size] <= SIDE
            && (bitsAt(SHAPES, size, number) & ~free) == 0;
    }

    /** The upper left cells of the points where four slabs meet. */
    private static int crossPoints(int covered, int right, int down) {
        int onAll = covered & covered >> 1 & covered >> SIDE & covered >> SIDE + 1;
        int joined = right | right >> SIDE | down | down >> 1;
        return onAll & ~joined & HAVE_RIGHT & HAVE_DOWN;
    }

    private static int longestSeam(int covered, int right, int down) {
        int upright = covered & covered >> 1 & HAVE_RIGHT & ~right;
        int level = covered & covered >> SIDE & HAVE_DOWN & ~down;
        int length = 0;
        for (int sides = 0; sides < SIDE && (upright | level) != 0; sides++) {
            length++;
            upright &= upright >> SIDE;
            level &= level >> 1 & HAVE_RIGHT;
        }
        return length;
    }

    private static int power(int base, int exponent) {
        int product = 1;
        for (int times = 0; times < exponent; times++) {
            product *= base;
        }
        return product;
    }

    private static int choices(int n, int k) {
        int ways = 1;
        for (int i = 0; i < k; i++) {
            ways = ways * (n - i) / (i + 1);
        }
        return ways;
    }

    private static int commonDivisor(int a, int b) {
        int larger = a;
        int smaller = b;
        for (int turn = 0; turn < 64 && smaller != 0; turn++) {
            int rest = larger % smaller;
            larger = smaller;
            smaller = rest;
        }
        return larger;
    }

    /** What the text tells. */
    private static final class Plot {
        int wide;
        int rows;
        int door;
        int lids;
        int drains;
        final int[] heights;
        final int[] stock;

        Plot() {
            heights = new int[CELLS];
            stock = new int[SIZES];
            wipe();
        }

        /** All as at first. */
        void wipe() {
            wide = 0;
            rows = 0;
            door = 0;
            lids = 0;
            drains = 0;
            for (int number = 0; number < CELLS; number++) {
                heights[number] = 0;
            }
            for (int size = 0; size < SIZES; size++) {
                stock[size] = FIRST_STOCK;
            }
        }

        void copyFrom(Plot other) {
            wide = other.wide;
            rows = other.rows;
            door = other.door;
            lids = other.lids;
            drains = other.drains;
            for (int number = 0; number < CELLS; number++) {
                heights[number] = other.heights[number];
            }
            for (int size = 0; size < SIZES; size++) {
                stock[size] = other.stock[size];
            }
        }

        boolean has(int x, int y) {
            return x >= 0 && x < wide && y >= 0 && y < rows;
        }

        /** There, and no lid. */
        boolean isOpen(int x, int y) {
            return has(x, y) && !holds(lids, numberOf(x, y));
        }

        int cells() {
            int oneRow = (1 << wide) - 1;
            int all = 0;
            for (int y = 0; y < rows; y++) {
                all |= oneRow << SIDE * y;
            }
            return all;
        }

        /** The cells on which a slab may lie at all. */
        int layable() {
            return cells() & ~lids & ~drains;
        }

        int sortOf(int number) {
            if (holds(lids, number)) {
                return 1;
            }
            return holds(drains, number) ? 2 : 0;
        }
    }

    /** THE TEXT, and what it tells, token by token; begin is where the token begins that was read last. */
    private static final class Reader {
        static final int END = 0, WORD = 1, NUMBER = 2, STOP = 3, WRONG = 4;
        // The value of letters that are more than one, of a number above 99 or with a 0 ahead: it stands nowhere.
        static final int UNFIT = -1;

        final int[] bytes;
        int length;
        final Plot told;
        int place;
        int begin;
        int token;
        int value;
        boolean doorTold;
        boolean stockTold;
        boolean rowsEnded;

        Reader() {
            bytes = new int[MOST_BYTES];
            told = new Plot();
        }

        boolean take(int c) {
            if (length >= MOST_BYTES) {
                return false;
            }
            bytes[length] = c;
            length++;
            return true;
        }

        /** How many items there are, or -10 less the place of the fault. */
        int readAll() {
            told.wipe();
            place = 0;
            doorTold = false;
            stockTold = false;
            rowsEnded = false;
            for (int items = 0; items < MOST_BYTES; items++) {
                readToken();
                if (token == END) {
                    return items;
                }
                if (token != WORD || !readTold(value, items)) {
                    return FAULT_BASE - begin;
                }
                readToken();
                if (token != STOP) {
                    return FAULT_BASE - begin;
                }
            }
            return FAULT_BASE - length;
        }

        /** What an item of this letter tells; if it faults, the token that was read last is to blame. */
        boolean readTold(int letter, int itemsAhead) {
            boolean yardTold = told.wide > 0;
            switch (letter) {
                case 'w':
                    return itemsAhead == 0 && readWide();
                case 'r':
                    return yardTold && !rowsEnded && told.rows < SIDE && readRow();
                case 'l':
                case 'd':
                    return yardTold && readCell(letter);
                case 'o':
                    return yardTold && !doorTold && readCell(letter);
                case 's':
                    return !stockTold && readStock();
                default:
                    return false;
            }
        }

        boolean readWide() {
            if (!readNumber(1, SIDE)) {
                return false;
            }
            told.wide = value;
            return true;
        }

        boolean readRow() {
            for (int x = 0; x < told.wide; x++) {
                int number = numberOf(x, told.rows);
                if (!readNumber(0, MOST_HEIGHT) || !isNumber(number)) {
                    return false;
                }
                told.heights[number] = value;
            }
            told.rows++;
            return true;
        }

        /** An X and a Y: a lid, a drain or the door. */
        boolean readCell(int letter) {
            rowsEnded = true;
            if (!readNumber(0, told.wide - 1)) {
                return false;
            }
            int x = value;
            if (!readNumber(0, told.rows - 1)) {
                return false;
            }
            int number = numberOf(x, value);
            if (letter == 'o') {
                told.door = number;
                doorTold = true;
                return true;
            }
            if (told.sortOf(number) != 0) {
                return false;
            }
            if (letter == 'l') {
                told.lids |= 1 << number;
            } else {
                told.drains |= 1 << number;
            }
            return true;
        }

        boolean readStock() {
            for (int size = 0; size < SIZES; size++) {
                if (!readNumber(0, MOST_STOCK)) {
                    return false;
                }
                told.stock[size] = value;
            }
            stockTold = true;
            return true;
        }

        boolean readNumber(int low, int high) {
            readToken();
            return token == NUMBER && value >= low && value <= high;
        }

        void readToken() {
            while (place < length && bytes[place] == ' ') {
                place++;
            }
            begin = place;
            value = UNFIT;
            if (place >= length) {
                token = END;
                return;
            }
            token = sortOf(bytes[place]);
            int runsTo = token == WORD || token == NUMBER ? length : begin + 1;
            int sum = 0;
            while (place < runsTo && sortOf(bytes[place]) == token) {
                sum = sum * 10 + bytes[place] - '0';
                place++;
            }
            int signs = place - begin;
            if (token == WORD && signs == 1) {
                value = bytes[begin];
            }
            if (token == NUMBER && (signs == 1 || signs == 2 && sum >= 10)) {
                value = sum;
            }
        }

        static int sortOf(int c) {
            if (c >= 'a' && c <= 'z') {
                return WORD;
            }
            if (c >= '0' && c <= '9') {
                return NUMBER;
            }
            return c == ';' ? STOP : WRONG;
        }
    }

    /** NOW: all that an image keeps. A slab is known by its upper left cell. */
    private static final class Ground {
        static final int LAID = 0, LIFTED = 1, RAISED = 2, DAY = 3;

        final int[] heights;
        final int[] slabs;
        final int[] stock;
        int todays;
        int days;
        // What was done, oldest first, with what is needed to take it back.
        final int[] doneWhat;
        final int[] doneWhere;
        final int[] doneBefore;
        int done;

        Ground() {
            heights = new int[CELLS];
            slabs = new int[CELLS];
            stock = new int[SIZES];
            doneWhat = new int[MOST_DONE];
            doneWhere = new int[MOST_DONE];
            doneBefore = new int[MOST_DONE];
            for (int number = 0; number < CELLS; number++) {
                slabs[number] = NONE;
            }
            for (int size = 0; size < SIZES; size++) {
                stock[size] = FIRST_STOCK;
            }
        }

        void startOn(Plot plot) {
            for (int number = 0; number < CELLS; number++) {
                heights[number] = plot.heights[number];
                slabs[number] = NONE;
            }
            for (int size = 0; size < SIZES; size++) {
                stock[size] = plot.stock[size];
            }
            todays = 0;
            days = 0;
            done = 0;
        }

        void copyFrom(Ground other) {
            for (int number = 0; number < CELLS; number++) {
                heights[number] = other.heights[number];
                slabs[number] = other.slabs[number];
            }
            for (int size = 0; size < SIZES; size++) {
                stock[size] = other.stock[size];
            }
            for (int i = 0; i < MOST_DONE; i++) {
                doneWhat[i] = other.doneWhat[i];
                doneWhere[i] = other.doneWhere[i];
                doneBefore[i] = other.doneBefore[i];
            }
            todays = other.todays;
            days = other.days;
            done = other.done;
        }

        void lay(int size, int number) {
            put(size, number, true);
            remember(LAID, number, 0);
        }

        /** Its size. */
        int lift(int slab) {
            int size = sizeOf(slab);
            int before = isTodays(slab) ? size + SIZES : size;
            take(slab);
            remember(LIFTED, slab, before);
            return size;
        }

        /** The height that it had. */
        int raise(int number, int height) {
            int before = heightOf(number);
            setHeight(number, height);
            remember(RAISED, number, before);
            return before;
        }

        void passDay() {
            remember(DAY, 0, todays);
            todays = 0;
            days++;
        }

        void put(int size, int number, boolean isOfToday) {
            if (!isSize(size) || !isNumber(number)) {
                return;
            }
            slabs[number] = size;
            stock[size]--;
            if (isOfToday) {
                todays |= 1 << number;
            }
        }

        void take(int slab) {
            int size = sizeOf(slab);
            if (!isSize(size) || !isNumber(slab)) {
                return;
            }
            slabs[slab] = NONE;
            stock[size]++;
            todays &= ~(1 << slab);
        }

        void remember(int what, int where, int before) {
            if (done >= MOST_DONE) {
                for (int i = 1; i < MOST_DONE; i++) {
                    doneWhat[i - 1] = doneWhat[i];
                    doneWhere[i - 1] = doneWhere[i];
                    doneBefore[i - 1] = doneBefore[i];
                }
                done = MOST_DONE - 1;
            }
            doneWhat[done] = what;
            doneWhere[done] = where;
            doneBefore[done] = before;
            done++;
        }

        /** Whether there was anything to be undone. */
        boolean goBack() {
            if (done <= 0) {
                return false;
            }
            done--;
            int where = doneWhere[done];
            int before = doneBefore[done];
            switch (doneWhat[done]) {
                case LAID:
                    take(where);
                    break;
                case LIFTED:
                    put(before % SIZES, where, before >= SIZES);
                    break;
                case RAISED:
                    setHeight(where, before);
                    break;
                default:
                    todays = before;
                    days--;
                    break;
            }
            return true;
        }

        /** The slab that lies on a cell; NONE. */
        int slabOn(int number) {
            for (int slab = 0; slab < CELLS; slab++) {
                if (holds(cellsOf(slab), number)) {
                    return slab;
                }
            }
            return NONE;
        }

        /** The slab's size; NONE. */
        int sizeOf(int slab) {
            return isNumber(slab) ? slabs[slab] : NONE;
        }

        int heightOf(int number) {
            return isNumber(number) ? heights[number] : 0;
        }

        void setHeight(int number, int height) {
            if (isNumber(number)) {
                heights[number] = height;
            }
        }

        int cellsOf(int slab) {
            return bitsAt(SHAPES, sizeOf(slab), slab);
        }

        boolean isTodays(int slab) {
            return slab != NONE && holds(todays, slab);
        }

        int slabCount() {
            int lie = 0;
            for (int slab = 0; slab < CELLS; slab++) {
                if (slabs[slab] != NONE) {
                    lie++;
                }
            }
            return lie;
        }

        int covered() {
            return joined(SHAPES);
        }

        int todaysCells() {
            int cells = 0;
            for (int slab = 0; slab < CELLS; slab++) {
                if (isTodays(slab)) {
                    cells |= cellsOf(slab);
                }
            }
            return cells;
        }

        /** The bits that a table has by SIZE, of all slabs together. */
        int joined(int[] bitsBySize) {
            int bits = 0;
            for (int slab = 0; slab < CELLS; slab++) {
                bits |= bitsAt(bitsBySize, slabs[slab], slab);
            }
            return bits;
        }

        int alikePairs() {
            int pairs = 0;
            for (int one = 0; one < CELLS; one++) {
                int around = beside(cellsOf(one));
                for (int other = one + 1; other < CELLS; other++) {
                    if (slabs[other] == slabs[one] && (cellsOf(other) & around) != 0) {
                        pairs++;
                    }
                }
            }
            return pairs;
        }
    }

    /** Where drops go. Cells by tiers: 0 the drains, else one more than the height; lids are on none. */
    private static final class Water {
        static final int TIERS = MOST_HEIGHT + 2;

        final int[] tiers;

        Water() {
            tiers = new int[TIERS];
        }

        void fill(Plot plot, Ground ground) {
            int dry = plot.layable();
            for (int tier = 0; tier < TIERS; tier++) {
                tiers[tier] = 0;
            }
            tiers[0] = plot.drains;
            for (int number = 0; number < CELLS; number++) {
                int tier = ground.heights[number] + 1;
                if (holds(dry, number) && tier > 0 && tier < TIERS) {
                    tiers[tier] |= 1 << number;
                }
            }
        }

        int tierOf(int number) {
            for (int tier = 0; tier < TIERS; tier++) {
                if (holds(tiers[tier], number)) {
                    return tier;
                }
            }
            return NONE;
        }

        /** Where a drop goes next; NONE where it ends. */
        int onward(int number) {
            int near = beside(1 << number);
            int own = tierOf(number);
            for (int tier = 0; tier < own && tier < TIERS; tier++) {
                int lowest = near & tiers[tier];
                if (lowest != 0) {
                    return firstAround(number, lowest);
                }
            }
            return NONE;
        }

        /** Of some cells beside one the first: up, right, down, left. */
        static int firstAround(int number, int cells) {
            int bit = 1 << number;
            if ((cells & bit >> SIDE) != 0) {
                return number - SIDE;
            }
            if ((cells & bit << 1) != 0) {
                return number + 1;
            }
            return (cells & bit << SIDE) != 0 ? number + SIDE : number - 1;
        }

        int endOf(int number) {
            int at = number;
            for (int step = 0; step < CELLS; step++) {
                int next = onward(at);
                if (next == NONE) {
                    return at;
                }
                at = next;
            }
            return at;
        }

        /** All cells on which a drop comes, the first and the last ones, too. */
        int wayOf(int number) {
            int way = 0;
            int at = number;
            for (int step = 0; step < CELLS && at != NONE; step++) {
                way |= 1 << at;
                at = onward(at);
            }
            return way;
        }

        /** A drop on a cell where one ends ends there itself: they are those with none lower beside them. */
        int puddles() {
            int still = 0;
            int lower = tiers[0];
            for (int tier = 1; tier < TIERS; tier++) {
                still |= tiers[tier] & ~beside(lower);
                lower |= tiers[tier];
            }
            return still;
        }
    }

    /** MEND: best is the cell, or NONE. */
    private static final class Mender {
        int best;
        int height;
        int puddlesLeft;
        int change;

        /** The water is left as it was. Cells and heights are tried upwards: the first of equals stays. */
        void search(Water water) {
            best = NONE;
            height = NONE;
            change = 0;
            puddlesLeft = Integer.bitCount(water.puddles());
            for (int number = 0; number < CELLS; number++) {
                int own = water.tierOf(number);
                if (own > 0 && own < Water.TIERS) {
                    tryHeights(water, number, own);
                }
            }
        }

        void tryHeights(Water water, int number, int own) {
            int bit = 1 << number;
            water.tiers[own] &= ~bit;
            for (int tier = 1; tier < Water.TIERS; tier++) {
                if (tier != own) {
                    water.tiers[tier] |= bit;
                    weigh(Integer.bitCount(water.puddles()), number, tier - 1, Math.abs(tier - own));
                    water.tiers[tier] &= ~bit;
                }
            }
            water.tiers[own] |= bit;
        }

        void weigh(int left, int number, int newHeight, int by) {
            if (left < puddlesLeft || left == puddlesLeft && by < change) {
                best = number;
                height = newHeight;
                puddlesLeft = left;
                change = by;
            }
        }
    }

    /** PLAN: fewest is how many slabs, or NONE. */
    private static final class Planner {
        static final int TOO_MANY = 99;

        int fewest;
        final int[] chosen;
        final int[] tried;
        final int[] left;
        int layable;
        int bound;

        Planner() {
            fewest = NONE;
            chosen = new int[CELLS];
            tried = new int[CELLS];
            left = new int[SIZES];
        }

        void search(Plot plot, Ground ground) {
            int covered = ground.covered();
            int right = ground.joined(JOINED_RIGHT);
            int down = ground.joined(JOINED_DOWN);
            layable = plot.layable();
            bound = TOO_MANY;
            for (int size = 0; size < SIZES; size++) {
                left[size] = ground.stock[size];
            }
            for (int number = 0; number < CELLS; number++) {
                chosen[number] = NONE;
                tried[number] = NONE;
            }
            if (crossPoints(covered, right, down) == 0) {
                layRest(this, 0, covered, right, down);
            }
            fewest = bound == TOO_MANY ? NONE : bound;
        }

        /** Tries all ways for the rest, the lowest cell first; only a way of fewer slabs than any before counts. */
        private static void layRest(Planner planner, int laid, int covered, int right, int down) {
            int free = planner.layable & ~covered;
            if (laid > CELLS || laid + planner.leastFor(Integer.bitCount(free)) >= planner.bound) {
                return;
            }
            if (free == 0) {
                planner.settle(laid);
                return;
            }
            int number = Integer.bitCount((free & -free) - 1);
            for (int size = 0; size < SIZES; size++) {
                if (planner.left[size] > 0 && fits(size, number, free)) {
                    int coveredThen = covered | bitsAt(SHAPES, size, number);
                    int rightThen = right | bitsAt(JOINED_RIGHT, size, number);
                    int downThen = down | bitsAt(JOINED_DOWN, size, number);
                    if (crossPoints(coveredThen, rightThen, downThen) == 0) {
                        planner.left[size]--;
                        planner.tried[number] = size;
                        layRest(planner, laid + 1, coveredThen, rightThen, downThen);
                        planner.tried[number] = NONE;
                        planner.left[size]++;
                    }
                }
            }
        }

        void settle(int laid) {
            bound = laid;
            for (int number = 0; number < CELLS; number++) {
                chosen[number] = tried[number];
            }
        }

        /** How many slabs of what is left as many cells need at least, were they of any form. */
        int leastFor(int cells) {
            int large = Math.min(left[0], cells / 4);
            int rest = cells - 4 * large;
            int middle = Math.min(left[1] + left[2], rest / 2);
            rest -= 2 * middle;
            return rest > left[3] ? TOO_MANY : large + middle + rest;
        }
    }
}
