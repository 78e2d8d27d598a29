import java.util.Arrays;

/**
 * A grid of cells, some of them faulty, on which rows of tasks are placed so that short wires join them.
 * All rows of numbers are made with the object and used again: a call makes no object.
 */
public final class GridMender {
    public static final int NONE = -1, BAD = -2, NOT = -3, FULL = -4;

    private static final int MOST_ROWS = 7;
    private static final int MOST_COLUMNS = 7;
    private static final int MOST_CELLS = MOST_ROWS * MOST_COLUMNS;
    /** No width and WISH have more SEATS than 7 over 3. */
    private static final int MOST_SEATS = 35;
    private static final int MOST_LENGTH = 3;
    /** least() looks at LENGTHS that length() does not take. */
    private static final int MOST_LENGTH_TRIED = 6;
    private static final int MOST_ITEMS = 60;
    private static final int SLOTS = 6;
    private static final int SHEETS = 4;

    private static final int LEFT = 1, TOP = 2, RIGHT = 4, BOTTOM = 8;
    private static final int ALL_SIDES = LEFT | TOP | RIGHT | BOTTOM;

    private static final int TRUTHS = 0, CHARS = 1, INTS = 2;

    private static final int NULL = 1, INDEX = 2, CAST = 3, STORE = 4, SIZE = 5;

    private final Board board = new Board();
    private final Placer placer = new Placer(board);
    private final ChainFinder chainFinder = new ChainFinder(board);
    private final Laying laid = new Laying();
    private final Laying[] slots = new Laying[SLOTS];
    private final Sheet[] sheets = new Sheet[SHEETS];
    private int movesOfMends;
    private int latestFinding;

    public GridMender() {
        for (int s = 0; s < SLOTS; s++) {
            slots[s] = new Laying();
        }
        for (int s = 0; s < SHEETS; s++) {
            sheets[s] = new Sheet();
        }
    }

    // ---- the grid

    public int grid(int h, int w) {
        if (h < 1 || h > MOST_ROWS || w < 1 || w > MOST_COLUMNS) {
            return BAD;
        }
        board.resize(h, w);
        laid.present = false;
        return board.cellCount();
    }

    public int wish(int n) {
        if (n < 1 || n > board.width) {
            return BAD;
        }
        int before = board.wish;
        board.changeWish(n);
        laid.present = false;
        return before;
    }

    public int length(int n) {
        if (n < 0 || n > MOST_LENGTH) {
            return BAD;
        }
        int before = board.length;
        board.changeLength(n);
        return before;
    }

    public int sides(int bits) {
        if (bits < 0 || bits > ALL_SIDES) {
            return BAD;
        }
        int before = board.sides;
        board.changeSides(bits);
        return before;
    }

    public int fault(int x, int y) {
        if (!board.hasCell(x, y)) {
            return BAD;
        }
        board.changeRow(y, board.faulty[y] ^ (1 << x));
        return board.faultyCount();
    }

    public int lots(int seed, int n) {
        if (n < 0 || n > 16) {
            return BAD;
        }
        int lot = seed;
        for (int y = 0; y < board.height; y++) {
            int row = 0;
            for (int x = 0; x < board.width; x++) {
                lot = 1103515245 * lot + 12345;
                if ((lot >>> 16) % 16 < n) {
                    row |= 1 << x;
                }
            }
            board.changeRow(y, row);
        }
        return board.faultyCount();
    }

    public int read(int y, int s) {
        Sheet sheet = sheetAt(s);
        if (!board.hasRow(y) || sheet == null) {
            return BAD;
        }
        if (sheet.lost) {
            return found(NULL);
        }
        int many = Math.min(sheet.size, board.width);
        int row = board.faulty[y];
        for (int x = 0; x < many; x++) {
            row = sheet.items[x] != 0 ? row | (1 << x) : row & ~(1 << x);
        }
        board.changeRow(y, row);
        return many;
    }

    public int cell(int x, int y, int what) {
        if (!board.hasCell(x, y)) {
            return BAD;
        }
        switch (what) {
            case 0:
                return bitOf(board.faulty[y], x);
            case 1:
                return laid.present ? taskAt(laid.seats[y], x) : NONE;
            case 2:
                return bitOf(placer.criticalOfRow(y), x);
            case 3:
                return bitOf(placer.coreOfRow(y), x);
            case 4:
                return (int) (chainFinder.stoppingCells() >>> board.numberOf(x, y)) & 1;
            default:
                return BAD;
        }
    }

    // ---- placings

    public int whole() {
        return placer.isWhole() ? 1 : 0;
    }

    public int mend() {
        int fewest = placer.fewestMoves(laid);
        if (fewest == NONE) {
            return NOT;
        }
        placer.layFewest(laid);
        movesOfMends += fewest;
        return fewest;
    }

    public int moves() {
        return placer.fewestMoves(laid);
    }

    public int seat(int y, int bits) {
        if (!board.hasRow(y) || bits < 0 || bits >= 1 << board.width || Integer.bitCount(bits) != board.wish) {
            return BAD;
        }
        if (!laid.present) {
            return NOT;
        }
        int moved = tasksMoved(laid.seats[y], bits, board.wish);
        laid.seats[y] = bits;
        return moved;
    }

    public int column(int y, int j) {
        if (!board.hasRow(y) || j < 0 || j >= board.wish) {
            return BAD;
        }
        return laid.present ? columnOf(laid.seats[y], j) : NONE;
    }

    public int seats(int y) {
        return board.hasRow(y) ? placer.seatsOfRow(y) : BAD;
    }

    public int broken() {
        return laid.present ? laid.brokenOn(board) : NONE;
    }

    public int witness(int part) {
        if (part < 0 || part > 1) {
            return BAD;
        }
        return part == 0 ? placer.firstRowOfWitness() : placer.lastRowOfWitness();
    }

    public int core() {
        int sum = 0;
        for (int y = 0; y < board.height; y++) {
            sum += Integer.bitCount(placer.coreOfRow(y));
        }
        return sum;
    }

    public int critical() {
        int sum = 0;
        for (int y = 0; y < board.height; y++) {
            sum += Integer.bitCount(placer.criticalOfRow(y));
        }
        return sum;
    }

    public int least(int what) {
        if (what < 0 || what > 1) {
            return BAD;
        }
        return what == 0 ? placer.leastLength() : placer.greatestWish();
    }

    // ---- chains

    public int chains() {
        return chainFinder.chainCount();
    }

    public long cut() {
        return chainFinder.stoppingCells();
    }

    // ---- slots

    public int keep(int s) {
        Laying slot = slotAt(s);
        if (slot == null) {
            return found(INDEX);
        }
        if (!laid.present) {
            return NOT;
        }
        slot.become(laid);
        return filledSlots();
    }

    public int go(int s) {
        Laying slot = slotAt(s);
        if (slot == null) {
            return found(INDEX);
        }
        if (!slot.present) {
            return found(NULL);
        }
        if (!slot.suits(board)) {
            return NOT;
        }
        laid.become(slot);
        return laid.brokenOn(board);
    }

    public int differ(int s) {
        Laying slot = slotAt(s);
        if (slot == null) {
            return found(INDEX);
        }
        if (!slot.present) {
            return found(NULL);
        }
        if (!slot.suits(board)) {
            return NOT;
        }
        int sum = 0;
        for (int y = 0; y < board.height; y++) {
            sum += tasksMoved(laid.seatOrFirst(y, board.wish), slot.seats[y], board.wish);
        }
        return sum;
    }

    public int drop(int s) {
        Laying slot = slotAt(s);
        if (slot == null) {
            return found(INDEX);
        }
        if (!slot.present) {
            return found(NULL);
        }
        slot.present = false;
        return filledSlots();
    }

    // ---- sheets

    public int sheet(int s, int form, int n) {
        Sheet sheet = sheetAt(s);
        if (sheet == null || !isForm(form) || n > MOST_ITEMS) {
            return BAD;
        }
        if (n < 0) {
            return found(SIZE);
        }
        sheet.begin(form, n);
        return n;
    }

    public int lose(int s) {
        Sheet sheet = sheetAt(s);
        if (sheet == null) {
            return BAD;
        }
        if (sheet.lost) {
            return found(NULL);
        }
        sheet.lost = true;
        return sheet.size;
    }

    public int lay(int s, int form, int i, int v) {
        Sheet sheet = sheetAt(s);
        if (sheet == null || !isForm(form)) {
            return BAD;
        }
        int finding = sheet.findingAt(form, i);
        if (finding != 0) {
            return found(finding);
        }
        sheet.put(i, v);
        return 1;
    }

    public int get(int s, int form, int i) {
        Sheet sheet = sheetAt(s);
        if (sheet == null || !isForm(form)) {
            return Integer.MIN_VALUE;
        }
        int finding = sheet.findingAt(form, i);
        if (finding != 0) {
            latestFinding = finding;
            return Integer.MIN_VALUE;
        }
        return sheet.items[i];
    }

    public int copy(int s, int i, int t, int j, int n) {
        Sheet from = sheetAt(s);
        Sheet to = sheetAt(t);
        if (from == null || to == null) {
            return BAD;
        }
        if (from.lost || to.lost) {
            return found(NULL);
        }
        if (from.form != to.form) {
            return found(STORE);
        }
        if (!from.hasItems(i, n) || !to.hasItems(j, n)) {
            return found(INDEX);
        }
        System.arraycopy(from.items, i, to.items, j, n);
        return 1;
    }

    public int write(int y, int s) {
        Sheet sheet = sheetAt(s);
        if (!board.hasRow(y) || sheet == null) {
            return BAD;
        }
        if (sheet.lost) {
            return found(NULL);
        }
        if (!laid.present) {
            return 0;
        }
        int many = Math.min(sheet.size, board.wish);
        for (int j = 0; j < many; j++) {
            sheet.put(j, columnOf(laid.seats[y], j));
        }
        return many;
    }

    public int count(int what) {
        switch (what) {
            case 0:
                return board.cellCount();
            case 1:
                return board.faultyCount();
            case 2:
                return placer.isWhole() ? 1 : 0;
            case 3:
                return movesOfMends;
            case 4:
                return filledSlots();
            case 5:
                return laid.present ? 1 : 0;
            case 6:
                return chainFinder.chainCount();
            case 7:
                return placer.seatsOfAllRows();
            case 8:
                return latestFinding;
            default:
                return BAD;
        }
    }

    public long digest() {
        long h = 17;
        for (int what = 0; what <= 7; what++) {
            h = 31 * h + count(what);
        }
        h = 31 * h + moves();
        h = 31 * h + broken();
        h = 31 * h + witness(0);
        h = 31 * h + witness(1);
        h = 31 * h + core();
        h = 31 * h + critical();
        h = 31 * h + least(0);
        h = 31 * h + least(1);
        h = 31 * h + cut();
        for (int y = 0; y < board.height; y++) {
            h = 31 * h + seats(y);
            for (int j = 0; j < board.wish; j++) {
                h = 31 * h + column(y, j);
            }
        }
        for (int y = 0; y < board.height; y++) {
            for (int x = 0; x < board.width; x++) {
                for (int what = 0; what <= 4; what++) {
                    h = 31 * h + cell(x, y, what);
                }
            }
        }
        for (int s = 0; s < SLOTS; s++) {
            if (slots[s].present) {
                h = 31 * h + differ(s);
            }
        }
        return h;
    }

    private int found(int finding) {
        latestFinding = finding;
        return -10 - finding;
    }

    private Laying slotAt(int s) {
        return s >= 0 && s < SLOTS ? slots[s] : null;
    }

    private Sheet sheetAt(int s) {
        return s >= 0 && s < SHEETS ? sheets[s] : null;
    }

    private int filledSlots() {
        int sum = 0;
        for (int s = 0; s < SLOTS; s++) {
            if (slots[s].present) {
                sum++;
            }
        }
        return sum;
    }

    private static boolean isForm(int form) {
        return form == TRUTHS || form == CHARS || form == INTS;
    }

    private static int bitOf(int bits, int x) {
        return (bits >>> x) & 1;
    }

    private static int columnOf(int seat, int task) {
        int left = task;
        for (int x = 0; x < MOST_COLUMNS; x++) {
            if (bitOf(seat, x) == 1) {
                if (left == 0) {
                    return x;
                }
                left--;
            }
        }
        return NONE;
    }

    private static int taskAt(int seat, int x) {
        return bitOf(seat, x) == 1 ? Integer.bitCount(seat & ((1 << x) - 1)) : NONE;
    }

    private static int tasksMoved(int from, int to, int wish) {
        int sum = 0;
        for (int j = 0; j < wish; j++) {
            if (columnOf(from, j) != columnOf(to, j)) {
                sum++;
            }
        }
        return sum;
    }

    /** What is told of the GRID. Each change has a new version, by which others know that what they found is old. */
    private static final class Board {
        int height = 5;
        int width = 6;
        int wish = 4;
        int length = 1;
        int sides = RIGHT;
        int version = 1;
        /** Of each ROW the FAULTY COLUMNS as bits. */
        final int[] faulty = new int[MOST_ROWS];

        void resize(int h, int w) {
            height = h;
            width = w;
            wish = Math.min(wish, w);
            Arrays.fill(faulty, 0);
            version++;
        }

        void changeWish(int n) {
            wish = n;
            version++;
        }

        void changeLength(int n) {
            length = n;
            version++;
        }

        void changeSides(int bits) {
            sides = bits;
            version++;
        }

        void changeRow(int y, int bits) {
            faulty[y] = bits;
            version++;
        }

        boolean hasRow(int y) {
            return y >= 0 && y < height;
        }

        boolean hasCell(int x, int y) {
            return x >= 0 && x < width && hasRow(y);
        }

        boolean isAtOpenSide(int x, int y) {
            return x == 0 && (sides & LEFT) != 0 || y == 0 && (sides & TOP) != 0
                || x == width - 1 && (sides & RIGHT) != 0 || y == height - 1 && (sides & BOTTOM) != 0;
        }

        int numberOf(int x, int y) {
            return y * width + x;
        }

        int cellCount() {
            return height * width;
        }

        int faultyCount() {
            int sum = 0;
            for (int y = 0; y < height; y++) {
                sum += Integer.bitCount(faulty[y]);
            }
            return sum;
        }
    }

    /** A SEAT for each ROW, or nothing: what is LAID is one of these, and so is each SLOT. */
    private static final class Laying {
        boolean present;
        private int height;
        private int width;
        private int wish;
        final int[] seats = new int[MOST_ROWS];

        void become(Laying other) {
            present = other.present;
            height = other.height;
            width = other.width;
            wish = other.wish;
            System.arraycopy(other.seats, 0, seats, 0, MOST_ROWS);
        }

        /** The SEATS themselves are the caller's to put. */
        void beginOn(Board board) {
            present = true;
            height = board.height;
            width = board.width;
            wish = board.wish;
        }

        boolean suits(Board board) {
            return height == board.height && width == board.width && wish == board.wish;
        }

        /** With nothing here TASK j counts as at COLUMN j, which is the SEAT of the lowest bits. */
        int seatOrFirst(int y, int tasks) {
            return present ? seats[y] : (1 << tasks) - 1;
        }

        int brokenOn(Board board) {
            int sum = 0;
            for (int y = 0; y < board.height; y++) {
                sum += Integer.bitCount(seats[y] & board.faulty[y]);
                sum += wideGaps(seats[y], board);
                if (y > 0) {
                    sum += farTasks(seats[y - 1], seats[y], board);
                }
            }
            return sum;
        }

        private static int wideGaps(int seat, Board board) {
            int sum = 0;
            for (int j = 1; j < board.wish; j++) {
                if (columnOf(seat, j) - columnOf(seat, j - 1) - 1 > board.length) {
                    sum++;
                }
            }
            return sum;
        }

        private static int farTasks(int upper, int lower, Board board) {
            int sum = 0;
            for (int j = 0; j < board.wish; j++) {
                if (Math.abs(columnOf(upper, j) - columnOf(lower, j)) > board.length) {
                    sum++;
                }
            }
            return sum;
        }
    }

    /** A row of a FORM; a truth is held as 1 or 0. */
    private static final class Sheet {
        boolean lost = true;
        int form;
        int size;
        final int[] items = new int[MOST_ITEMS];

        void begin(int newForm, int newSize) {
            lost = false;
            form = newForm;
            size = newSize;
            Arrays.fill(items, 0);
        }

        /** The FINDING of one that takes item i to be there and of this FORM, or 0. */
        int findingAt(int asForm, int i) {
            if (lost) {
                return NULL;
            }
            if (form != asForm) {
                return CAST;
            }
            return i < 0 || i >= size ? INDEX : 0;
        }

        boolean hasItems(int first, int many) {
            return first >= 0 && many >= 0 && first <= size && many <= size - first;
        }

        void put(int i, int v) {
            items[i] = form == TRUTHS ? v & 1 : form == CHARS ? v & 0xFFFF : v;
        }
    }

    /**
     * The SEATS, the least first, that FIT a ROW of GOOD CELLS, and which of them FIT each other.
     * Sets of SEATS are longs with a bit for each place in this table.
     */
    private static final class SeatTable {
        int size;
        final int[] seats = new int[MOST_SEATS];
        private final int[] columns = new int[MOST_SEATS * MOST_COLUMNS];
        private final long[] fitting = new long[MOST_SEATS];
        private int width;
        private int wish;
        private int length;

        void prepare(int newWidth, int newWish, int newLength) {
            if (width == newWidth && wish == newWish && length == newLength) {
                return;
            }
            width = newWidth;
            wish = newWish;
            length = newLength;
            size = 0;
            for (int seat = 0; seat < 1 << width; seat++) {
                if (Integer.bitCount(seat) == wish && size < MOST_SEATS) {
                    addUnlessWide(seat);
                }
            }
            joinSeats();
        }

        private void addUnlessWide(int seat) {
            int base = size * MOST_COLUMNS;
            int tasks = 0;
            for (int x = 0; x < width; x++) {
                if (bitOf(seat, x) == 1) {
                    if (tasks > 0 && x - columns[base + tasks - 1] - 1 > length) {
                        return;
                    }
                    columns[base + tasks] = x;
                    tasks++;
                }
            }
            seats[size] = seat;
            size++;
        }

        private void joinSeats() {
            for (int k = 0; k < size; k++) {
                fitting[k] = 1L << k;
                for (int other = 0; other < k; other++) {
                    if (areNear(k, other)) {
                        fitting[k] |= 1L << other;
                        fitting[other] |= 1L << k;
                    }
                }
            }
        }

        private boolean areNear(int k, int other) {
            for (int j = 0; j < wish; j++) {
                int apart = columns[k * MOST_COLUMNS + j] - columns[other * MOST_COLUMNS + j];
                if (apart > length || -apart > length) {
                    return false;
                }
            }
            return true;
        }

        int columnAt(int k, int task) {
            return columns[k * MOST_COLUMNS + task];
        }

        long seatsFitting(int k) {
            return fitting[k];
        }

        long seatsWithout(int faultyColumns) {
            long set = 0;
            for (int k = 0; k < size; k++) {
                if ((seats[k] & faultyColumns) == 0) {
                    set |= 1L << k;
                }
            }
            return set;
        }

        long seatsFittingAny(long set) {
            long reached = 0;
            for (int k = 0; k < size; k++) {
                if ((set >>> k & 1) == 1) {
                    reached |= fitting[k];
                }
            }
            return reached;
        }

        int columnsOfAll(long set) {
            int shared = (1 << width) - 1;
            for (int k = 0; k < size; k++) {
                if ((set >>> k & 1) == 1) {
                    shared &= seats[k];
                }
            }
            return shared;
        }
    }

    /** What can be said of PLACINGS; kept until the board has another version. */
    private static final class Placer {
        /** More than all TASKS together. */
        private static final int HOPELESS = 1000;

        private final Board board;
        private final SeatTable table = new SeatTable();
        private final long[] rowSeats = new long[MOST_ROWS];
        private final SeatTable trialTable = new SeatTable();
        private final long[] trialSeats = new long[MOST_ROWS];
        private final int[] coreRows = new int[MOST_ROWS];
        private final int[] criticalRows = new int[MOST_ROWS];
        /** Of each ROW and SEAT, the fewest MOVES from that ROW down. */
        private final int[] moves = new int[MOST_ROWS * MOST_SEATS];
        private final int[] columnsNow = new int[MOST_COLUMNS];
        private boolean whole;
        private int witnessFirst;
        private int witnessLast;
        private int wholeVersion;
        private int marksVersion;

        Placer(Board board) {
            this.board = board;
        }

        private void refresh() {
            if (wholeVersion == board.version) {
                return;
            }
            wholeVersion = board.version;
            table.prepare(board.width, board.wish, board.length);
            whole = canPlaceBy(table, rowSeats);
        }

        private boolean canPlaceBy(SeatTable seatTable, long[] seatsOfRows) {
            for (int y = 0; y < board.height; y++) {
                seatsOfRows[y] = seatTable.seatsWithout(board.faulty[y]);
            }
            return canPlace(seatTable, seatsOfRows, 0, board.height - 1);
        }

        private static boolean canPlace(SeatTable seatTable, long[] seatsOfRows, int first, int last) {
            long reached = seatsOfRows[first];
            for (int y = first + 1; y <= last && reached != 0; y++) {
                reached = seatsOfRows[y] & seatTable.seatsFittingAny(reached);
            }
            return reached != 0;
        }

        boolean isWhole() {
            refresh();
            return whole;
        }

        int seatsOfRow(int y) {
            refresh();
            return Long.bitCount(rowSeats[y]);
        }

        int seatsOfAllRows() {
            refresh();
            int sum = 0;
            for (int y = 0; y < board.height; y++) {
                sum += Long.bitCount(rowSeats[y]);
            }
            return sum;
        }

        int firstRowOfWitness() {
            refresh();
            refreshMarks();
            return witnessFirst;
        }

        int lastRowOfWitness() {
            refresh();
            refreshMarks();
            return witnessLast;
        }

        int coreOfRow(int y) {
            refresh();
            refreshMarks();
            return coreRows[y];
        }

        int criticalOfRow(int y) {
            refresh();
            refreshMarks();
            return criticalRows[y];
        }

        /** Apart from refresh, since many calls need no more than that. */
        private void refreshMarks() {
            if (marksVersion == board.version) {
                return;
            }
            marksVersion = board.version;
            Arrays.fill(coreRows, 0);
            Arrays.fill(criticalRows, 0);
            witnessFirst = NONE;
            witnessLast = NONE;
            if (whole) {
                markCritical();
            } else {
                markWitness();
                markCore();
            }
        }

        /** A CELL is CRITICAL, if no SEAT of its ROW that is of some PLACING goes without it. */
        private void markCritical() {
            int last = board.height - 1;
            trialSeats[0] = rowSeats[0];
            for (int y = 1; y <= last; y++) {
                trialSeats[y] = rowSeats[y] & table.seatsFittingAny(trialSeats[y - 1]);
            }
            for (int y = last - 1; y >= 0; y--) {
                trialSeats[y] &= table.seatsFittingAny(trialSeats[y + 1]);
            }
            for (int y = 0; y <= last; y++) {
                criticalRows[y] = table.columnsOfAll(trialSeats[y]);
            }
        }

        private void markWitness() {
            for (int rows = 1; rows <= board.height; rows++) {
                for (int first = 0; first + rows <= board.height; first++) {
                    if (!canPlace(table, rowSeats, first, first + rows - 1)) {
                        witnessFirst = first;
                        witnessLast = first + rows - 1;
                        return;
                    }
                }
            }
        }

        private void markCore() {
            System.arraycopy(rowSeats, 0, trialSeats, 0, MOST_ROWS);
            for (int y = 0; y < board.height; y++) {
                coreRows[y] = board.faulty[y];
                for (int x = 0; x < board.width; x++) {
                    int without = coreRows[y] & ~(1 << x);
                    if (without == coreRows[y]) {
                        continue;
                    }
                    long seatsWith = trialSeats[y];
                    trialSeats[y] = table.seatsWithout(without);
                    if (canPlace(table, trialSeats, 0, board.height - 1)) {
                        trialSeats[y] = seatsWith;
                    } else {
                        coreRows[y] = without;
                    }
                }
            }
        }

        int leastLength() {
            for (int length = 0; length <= MOST_LENGTH_TRIED; length++) {
                trialTable.prepare(board.width, board.wish, length);
                if (canPlaceBy(trialTable, trialSeats)) {
                    return length;
                }
            }
            return NONE;
        }

        int greatestWish() {
            for (int wish = board.width; wish >= 1; wish--) {
                trialTable.prepare(board.width, wish, board.length);
                if (canPlaceBy(trialTable, trialSeats)) {
                    return wish;
                }
            }
            return NONE;
        }

        int fewestMoves(Laying laid) {
            refresh();
            if (!whole) {
                return NONE;
            }
            for (int y = board.height - 1; y >= 0; y--) {
                addMovesOfRow(y, laid.seatOrFirst(y, board.wish));
            }
            int place = cheapest(0, rowSeats[0]);
            return place == NONE ? NONE : moves[place];
        }

        private void addMovesOfRow(int y, int seatNow) {
            for (int j = 0; j < board.wish; j++) {
                columnsNow[j] = columnOf(seatNow, j);
            }
            for (int k = 0; k < table.size; k++) {
                if ((rowSeats[y] >>> k & 1) == 1) {
                    moves[y * MOST_SEATS + k] = movesTo(k) + fewestBelow(y, k);
                }
            }
        }

        private int movesTo(int k) {
            int sum = 0;
            for (int j = 0; j < board.wish; j++) {
                if (table.columnAt(k, j) != columnsNow[j]) {
                    sum++;
                }
            }
            return sum;
        }

        private int fewestBelow(int y, int k) {
            if (y == board.height - 1) {
                return 0;
            }
            int place = cheapest(y + 1, rowSeats[y + 1] & table.seatsFitting(k));
            return place == NONE ? HOPELESS : moves[place];
        }

        /** Where in moves the fewest of a ROW stand, of like ones those of the least SEAT. */
        private int cheapest(int y, long set) {
            int best = NONE;
            for (int k = 0; k < table.size; k++) {
                int place = y * MOST_SEATS + k;
                if ((set >>> k & 1) == 1 && (best == NONE || moves[place] < moves[best])) {
                    best = place;
                }
            }
            return best;
        }

        /** To be called after fewestMoves has found some: it goes by what that wrote down. */
        void layFewest(Laying laid) {
            laid.beginOn(board);
            long open = rowSeats[0];
            for (int y = 0; y < board.height; y++) {
                int place = cheapest(y, open & rowSeats[y]);
                if (place == NONE) {
                    return;
                }
                int k = place - y * MOST_SEATS;
                laid.seats[y] = table.seats[k];
                open = table.seatsFitting(k);
            }
        }
    }

    /**
     * CHAINS as a greatest flow through CELLS that each take one: a CELL has an entry (twice its place) and
     * an exit (one more). What can still be reached when no more CHAINS can be had tells the CUT that is
     * nearest to the FAULTY CELLS, which is the one with which fewest are reached.
     */
    private static final class ChainFinder {
        /** The GRID has a rim of places that are no CELLS, so that each CELL has four neighbours. */
        private static final int STRIDE = MOST_COLUMNS + 2;
        private static final int PLACES = STRIDE * (MOST_ROWS + 2);
        private static final int NODES = 2 * PLACES;
        private static final int GOOD = 1, FAULTY = 2, OPEN = 4;
        private static final int START = -1, UNSEEN = -2, UNUSED = -3, CLOSED = -4;

        private final Board board;
        private final int[] kinds = new int[PLACES];
        /** Of each CELL that is of a CHAIN the place of the CELL before, or START. */
        private final int[] before = new int[PLACES];
        private final int[] cameFrom = new int[NODES];
        private final int[] queue = new int[NODES];
        private int queued;
        private int version;
        private int found;
        private long stopping;

        ChainFinder(Board board) {
            this.board = board;
        }

        int chainCount() {
            refresh();
            return found;
        }

        long stoppingCells() {
            refresh();
            return stopping;
        }

        private void refresh() {
            if (version == board.version) {
                return;
            }
            version = board.version;
            takeKinds();
            Arrays.fill(before, UNUSED);
            found = 0;
            int last = lastNodeOfNewChain();
            for (int round = 0; round < MOST_CELLS && last != NONE; round++) {
                addChain(last);
                found++;
                last = lastNodeOfNewChain();
            }
            stopping = cellsNotPassed();
        }

        private void takeKinds() {
            Arrays.fill(kinds, 0);
            for (int y = 0; y < board.height; y++) {
                for (int x = 0; x < board.width; x++) {
                    int kind = bitOf(board.faulty[y], x) == 1 ? FAULTY : GOOD;
                    kinds[placeOf(x, y)] = board.isAtOpenSide(x, y) ? kind | OPEN : kind;
                }
            }
        }

        private int lastNodeOfNewChain() {
            queued = 0;
            for (int place = 0; place < PLACES; place++) {
                cameFrom[2 * place] = kinds[place] == 0 ? CLOSED : UNSEEN;
                cameFrom[2 * place + 1] = UNSEEN;
                if ((kinds[place] & FAULTY) != 0) {
                    reach(2 * place, START);
                }
            }
            for (int next = 0; next < queued && next < NODES; next++) {
                int node = queue[next];
                if (node % 2 == 0) {
                    goOnFromEntry(node);
                } else if ((kinds[node / 2] & OPEN) != 0) {
                    return node;
                } else {
                    goOnFromExit(node);
                }
            }
            return NONE;
        }

        /** The entry of a CELL that has a CHAIN leads back along that, to the exit before. */
        private void goOnFromEntry(int node) {
            int earlier = before[node / 2];
            if (earlier == UNUSED) {
                reach(node + 1, node);
            } else if (earlier != START) {
                reach(2 * earlier + 1, node);
            }
        }

        /** The entries of FAULTY CELLS are all seen at the start, so that no CHAIN goes through one. */
        private void goOnFromExit(int node) {
            int place = node / 2;
            if (before[place] != UNUSED) {
                reach(node - 1, node);
            }
            reach(2 * (place - 1), node);
            reach(2 * (place + 1), node);
            reach(2 * (place - STRIDE), node);
            reach(2 * (place + STRIDE), node);
        }

        private void reach(int node, int from) {
            if (node >= 0 && node < NODES && queued < NODES && cameFrom[node] == UNSEEN) {
                cameFrom[node] = from;
                queue[queued] = node;
                queued++;
            }
        }

        /** Only entries need a new CELL before them: one that is come to from its own exit is given up. */
        private void addChain(int last) {
            int node = last;
            for (int step = 0; step < NODES && node >= 0; step++) {
                int from = cameFrom[node];
                if (node % 2 == 0) {
                    before[node / 2] = from == START ? START : from == node + 1 ? UNUSED : from / 2;
                }
                node = from;
            }
        }

        private long cellsNotPassed() {
            long set = 0;
            for (int y = 0; y < board.height; y++) {
                for (int x = 0; x < board.width; x++) {
                    int entry = 2 * placeOf(x, y);
                    if (cameFrom[entry] != UNSEEN && cameFrom[entry + 1] == UNSEEN) {
                        set |= 1L << board.numberOf(x, y);
                    }
                }
            }
            return set;
        }

        private static int placeOf(int x, int y) {
            return (y + 1) * STRIDE + x + 1;
        }
    }
}
