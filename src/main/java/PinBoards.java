/** A map of cells on baize, with pins that a boy takes out at six and puts back by eight. */
public final class PinBoards {
    public static final int NONE = -1000000, BAD = -1000001, STATE = -1000002, FULL = -1000003;

    private static final int NO_FINDING = -1000010, NO_FAULT = -1000100;
    private static final int NULL = 1, PLACE = 2, KIND = 3, SIZE = 4, STORE = 5;
    private static final int CANNOT_STAND = 1, NOT_AS_TOLD = 2, NO_ROOM = 3;
    private static final int PIN = 0, AGENT = 1, MIXED = 2, ROVER = 3, OLD = 4, WHALE = 5;

    private static final int MOST_ROWS = 8, MOST_ITEMS = 40, BYTES = 0, SHORTS = 1, INTS = 2;
    private static final int MOST_BYTES = 130;
    private static final int LEAST_CELLS = 4, MOST_CELLS = 16, MOST_PINS = 7;
    private static final int MOST_SLIP = 15, MOST_WORK = 9, MOST_SKILL = 9, MOST_COLOUR = 3;
    private static final int MOST_TIMES = 24, MOST_TIME = 9999, MOST_EARNED = 999999;
    private static final int MOST_ACTS = 24, MOST_IMAGES = 2, MOST_TRACE = 16;
    private static final int MOST_AHEAD = 60, MOST_ROUND = 200, MOST_OPENINGS = 12;
    private static final int MOST_YEARS = 30, MOST_SEED = 999999, TENTHS = 10;
    private static final long DRAW_FACTOR = 16807L, DRAW_DIVISOR = 2147483647L;

    private final Rows rows = new Rows();
    private final Reader reader = new Reader();
    private final Board board = new Board();
    private final Foresight foresight = new Foresight(board);
    private final Past past = new Past();
    private final Asks asks = new Asks(board);
    private final Board[] images = new Board[MOST_IMAGES];
    private int lastFinding;

    public PinBoards() {
        for (int k = 0; k < MOST_IMAGES; k++) {
            images[k] = new Board();
        }
    }

    // ---- rows

    public int row(int row, int lane, int n) {
        if (!rows.isRow(row) || !within(lane, BYTES, INTS) || n > MOST_ITEMS) {
            return BAD;
        }
        if (n < 0) {
            return finding(SIZE);
        }
        rows.lay(row, lane, n);
        return foundNothing(n);
    }

    public int set(int row, int i, int v) {
        if (!rows.isRow(row)) {
            return BAD;
        }
        if (rows.isMissing(row)) {
            return finding(NULL);
        }
        if (!rows.hasPlaces(row, i, 1)) {
            return finding(PLACE);
        }
        return foundNothing(rows.put(row, i, v));
    }

    public int copy(int a, int i, int b, int j, int n) {
        if (!rows.isRow(a) || !rows.isRow(b)) {
            return BAD;
        }
        if (rows.isMissing(a) || rows.isMissing(b)) {
            return finding(NULL);
        }
        if (rows.lanes[a] != rows.lanes[b]) {
            return finding(STORE);
        }
        if (!rows.hasPlaces(a, i, n) || !rows.hasPlaces(b, j, n)) {
            return finding(PLACE);
        }
        System.arraycopy(rows.items[a], i, rows.items[b], j, n);
        return foundNothing(n);
    }

    public int drop(int row) {
        if (!rows.isRow(row)) {
            return BAD;
        }
        if (rows.isMissing(row)) {
            return finding(NULL);
        }
        return foundNothing(rows.remove(row));
    }

    // ---- maps, acts

    public int feed(int letter) {
        if (!within(letter, 0, 255)) {
            return BAD;
        }
        if (reader.length >= MOST_BYTES) {
            return FULL;
        }
        return reader.append(letter);
    }

    public int map() {
        // What is read goes to the trial board first: a fault must leave the map as it is.
        boolean read = reader.readInto(foresight.trial);
        reader.clear();
        if (!read) {
            return NO_FAULT - reader.faultPlace;
        }
        board.takeFrom(foresight.trial);
        past.forget();
        return board.pins;
    }

    public int fault() {
        return reader.faultNumber;
    }

    public int times(int n) {
        if (!board.stands()) {
            return STATE;
        }
        if (!within(n, 1, MOST_TIMES)) {
            return BAD;
        }
        if (board.time + n > MOST_TIME) {
            return FULL;
        }
        for (int k = 0; k < n; k++) {
            past.keep(board);
            board.turn();
        }
        return board.day ? 1 : 0;
    }

    public int move(int pin, int cell) {
        if (!board.hasPin(pin) || !board.hasCell(cell)) {
            return BAD;
        }
        if (!board.day || board.last[pin] == cell) {
            return STATE;
        }
        past.keep(board);
        int from = board.last[pin];
        board.last[pin] = cell;
        return from;
    }

    public int swap(int one, int other) {
        if (!board.hasPin(one) || !board.hasPin(other) || one == other) {
            return BAD;
        }
        if (!board.day) {
            return STATE;
        }
        past.keep(board);
        board.change(one, other);
        return board.last[one];
    }

    public int work(int cell, int v) {
        if (!board.hasCell(cell) || !within(v, 0, MOST_WORK)) {
            return BAD;
        }
        past.keep(board);
        int before = board.work[cell];
        board.work[cell] = v;
        return before;
    }

    public int slip(int v) {
        if (!board.stands()) {
            return STATE;
        }
        if (!within(v, 0, MOST_SLIP)) {
            return BAD;
        }
        past.keep(board);
        int before = board.slip;
        board.slip = v;
        return before;
    }

    public int undo() {
        if (past.held < 1) {
            return STATE;
        }
        past.giveBack(board);
        return past.held;
    }

    public int pin(int pin, int what) {
        if (!board.hasPin(pin)) {
            return BAD;
        }
        switch (what) {
            case 0: return board.home[pin];
            case 1: return board.skill[pin];
            case 2: return board.colour[pin];
            case 3: return board.place(pin);
            case 4: return board.last[pin];
            default: return BAD;
        }
    }

    public int cell(int cell, int what) {
        if (!board.hasCell(cell)) {
            return BAD;
        }
        switch (what) {
            case 0: return board.work[cell];
            case 1: return board.pinsIn(cell);
            case 2: return board.owner(cell);
            default: return BAD;
        }
    }

    // ---- foretold

    public int ahead(int pin, int d) {
        if (!board.hasPin(pin) || !within(d, 0, MOST_AHEAD)) {
            return BAD;
        }
        foresight.goOn(d);
        return foresight.trial.place(pin);
    }

    public int earned(int d) {
        if (!board.stands()) {
            return STATE;
        }
        if (!within(d, 0, MOST_AHEAD)) {
            return BAD;
        }
        foresight.goOn(d);
        return foresight.trial.earned;
    }

    public int tomsk(int pin, int cell) {
        return board.hasPin(pin) && board.hasCell(cell) ? foresight.turnsTillIn(pin, cell) : BAD;
    }

    public int round() {
        return board.stands() ? foresight.turnsTillSame() : STATE;
    }

    public int right(int what) {
        if (!board.stands()) {
            return STATE;
        }
        switch (what) {
            case 0: return board.pinsAtHome();
            case 1: return board.fewestChanges();
            default: return BAD;
        }
    }

    public int best(int pin) {
        if (!board.stands()) {
            return STATE;
        }
        if (pin != -1 && !board.hasPin(pin)) {
            return BAD;
        }
        if (board.pins > board.cells) {
            return NONE;
        }
        return pin == -1 ? foresight.mostWorth(0, 0) : foresight.bestCell(pin);
    }

    public int fits(int pin, int row, int i, int n, int what) {
        boolean known = board.hasPin(pin) && rows.isRow(row);
        if (!known || !within(n, 1, MOST_OPENINGS) || !within(what, 0, 3)) {
            return BAD;
        }
        if (rows.isMissing(row)) {
            return finding(NULL);
        }
        if (!rows.hasPlaces(row, i, n)) {
            return finding(PLACE);
        }
        return foundNothing(foresight.fitting(pin, what, rows.items[row], i, n));
    }

    public int left(int cell, int c, int what) {
        if (!board.hasCell(cell) || !within(c, 0, TENTHS) || !within(what, 0, 1)) {
            return BAD;
        }
        return foresight.heldWhenLeftOut(cell, c, what);
    }

    public int drawn(int n, int seed, int what) {
        if (!board.stands()) {
            return STATE;
        }
        if (!within(n, 0, MOST_YEARS) || !within(seed, 1, MOST_SEED) || !within(what, 0, 1)) {
            return BAD;
        }
        foresight.drawYears(n, seed);
        return what == 0 ? foresight.trial.earned : Integer.bitCount(foresight.trial.pinsAtHome());
    }

    public int image(int k) {
        if (!within(k, 0, MOST_IMAGES - 1)) {
            return BAD;
        }
        if (!board.stands()) {
            return STATE;
        }
        images[k].takeFrom(board);
        return 1;
    }

    public int restore(int k) {
        if (!within(k, 0, MOST_IMAGES - 1)) {
            return BAD;
        }
        if (!images[k].stands()) {
            return STATE;
        }
        board.takeFrom(images[k]);
        past.forget();
        return 1;
    }

    // ---- asked

    public int kind(int pin) {
        return board.hasPin(pin) ? board.kind[pin] : BAD;
    }

    public int as(int pin, int kind) {
        if (!board.hasPin(pin) || !within(kind, PIN, WHALE)) {
            return BAD;
        }
        if (!isA(board.kind[pin], kind)) {
            return finding(KIND);
        }
        return foundNothing(pin);
    }

    public int ask(int pin, int what) {
        if (!board.hasPin(pin) || !within(what, 0, 1)) {
            return BAD;
        }
        asks.begin();
        return what == 0 ? asks.sizeOf(pin) : asks.markOf(pin);
    }

    public int trace(int i) {
        return within(i, 0, asks.traced - 1) ? asks.numbers[i] : NONE;
    }

    public int count(int what) {
        switch (what) {
            case 0: return rows.present();
            case 1: return board.cells;
            case 2: return board.pins;
            case 3: return board.time;
            case 4: return board.day ? 1 : 0;
            case 5: return board.slip;
            case 6: return board.earned;
            case 7: return board.pinsInTray();
            case 8: return past.held;
            case 9: return reader.length;
            default: return BAD;
        }
    }

    public int status() {
        return lastFinding;
    }

    private int finding(int number) {
        lastFinding = number;
        return NO_FINDING - number;
    }

    private int foundNothing(int answer) {
        lastFinding = 0;
        return answer;
    }

    private static boolean within(int v, int least, int most) {
        return v >= least && v <= most;
    }

    private static boolean isSet(int bits, int i) {
        return (bits >> i & 1) == 1;
    }

    private static boolean isA(int kind, int asked) {
        if (asked == PIN || asked == kind) {
            return true;
        }
        return asked == AGENT ? kind == MIXED || kind == ROVER : asked == OLD && kind == WHALE;
    }

    /** The rows; all items are made once and used again, whatever the lane. */
    private static final class Rows {
        static final int MISSING = -1;
        final int[] lanes = new int[MOST_ROWS];
        final int[] sizes = new int[MOST_ROWS];
        final int[][] items = new int[MOST_ROWS][MOST_ITEMS];

        Rows() {
            for (int row = 0; row < MOST_ROWS; row++) {
                lanes[row] = MISSING;
            }
        }

        boolean isRow(int row) {
            return within(row, 0, MOST_ROWS - 1);
        }

        boolean isMissing(int row) {
            return lanes[row] == MISSING;
        }

        /** Written without i + n, which could wrap around. */
        boolean hasPlaces(int row, int i, int n) {
            return n >= 0 && i >= 0 && i <= sizes[row] - n;
        }

        void lay(int row, int lane, int n) {
            lanes[row] = lane;
            sizes[row] = n;
            for (int i = 0; i < MOST_ITEMS; i++) {
                items[row][i] = 0;
            }
        }

        int put(int row, int i, int v) {
            int kept = v;
            if (lanes[row] == BYTES) {
                kept = (byte) v;
            } else if (lanes[row] == SHORTS) {
                kept = (short) v;
            }
            items[row][i] = kept;
            return kept;
        }

        int remove(int row) {
            lanes[row] = MISSING;
            return sizes[row];
        }

        int present() {
            int sum = 0;
            for (int row = 0; row < MOST_ROWS; row++) {
                sum += isMissing(row) ? 0 : 1;
            }
            return sum;
        }
    }

    /** The tape, and how a map is read from it, token by token. */
    private static final class Reader {
        final int[] tape = new int[MOST_BYTES];
        int length;
        int faultNumber;
        int faultPlace;
        private int next;
        private int number;

        int append(int letter) {
            if (length < MOST_BYTES) {
                tape[length] = letter;
                length++;
            }
            return length;
        }

        void clear() {
            length = 0;
        }

        boolean readInto(Board made) {
            next = 0;
            made.makeEmpty();
            return readLaw(made) && readCells(made) && readPins(made);
        }

        private boolean readLaw(Board made) {
            if (!takes('m') || !takesNumber(0, MOST_SLIP)) {
                return false;
            }
            made.slip = number;
            return takes(';');
        }

        private boolean readCells(Board made) {
            for (int k = 0; k <= MOST_CELLS && isNext('c'); k++) {
                if (!readCell(made)) {
                    return false;
                }
            }
            return made.cells >= LEAST_CELLS || faultAt(next, CANNOT_STAND);
        }

        private boolean readCell(Board made) {
            if (made.cells >= MOST_CELLS) {
                return faultAt(next, NO_ROOM);
            }
            if (!takes('c') || !takesNumber(0, MOST_WORK)) {
                return false;
            }
            made.work[made.cells] = number;
            made.cells++;
            return takes(';');
        }

        private boolean readPins(Board made) {
            for (int k = 0; k <= MOST_PINS && next < length; k++) {
                if (!readPin(made)) {
                    return false;
                }
            }
            return true;
        }

        private boolean readPin(Board made) {
            int kind = next < length ? kindOf(tape[next]) : PIN;
            if (kind == PIN) {
                return faultAt(next, CANNOT_STAND);
            }
            if (made.pins >= MOST_PINS) {
                return faultAt(next, NO_ROOM);
            }
            next++;
            int pin = made.pins;
            made.kind[pin] = kind;
            if (!readHome(made) || !takes(',') || !takesNumber(1, MOST_SKILL)) {
                return false;
            }
            made.skill[pin] = number;
            if (!takes(',') || !takesNumber(0, MOST_COLOUR)) {
                return false;
            }
            made.colour[pin] = number;
            made.pins++;
            return takes(';');
        }

        private boolean readHome(Board made) {
            int place = next;
            if (!takesNumber(0, made.cells - 1)) {
                return false;
            }
            if (made.owner(number) != NONE) {
                return faultAt(place, NOT_AS_TOLD);
            }
            made.home[made.pins] = number;
            made.last[made.pins] = number;
            return true;
        }

        private static int kindOf(int letter) {
            switch (letter) {
                case 'a': return AGENT;
                case 's': return MIXED;
                case 'r': return ROVER;
                case 'o': return OLD;
                case 'w': return WHALE;
                default: return PIN;
            }
        }

        private boolean isNext(int sign) {
            return next < length && tape[next] == sign;
        }

        private boolean takes(int sign) {
            if (!isNext(sign)) {
                return faultAt(next, CANNOT_STAND);
            }
            next++;
            return true;
        }

        private boolean takesNumber(int least, int most) {
            int place = next;
            number = 0;
            for (int k = 0; k < 3 && next < length && within(tape[next], '0', '9'); k++) {
                number = number * 10 + tape[next] - '0';
                next++;
            }
            int figures = next - place;
            if (figures < 1 || figures > 2) {
                return faultAt(place, CANNOT_STAND);
            }
            return within(number, least, most) || faultAt(place, NOT_AS_TOLD);
        }

        /** Always false, so that what reads can answer with it. */
        private boolean faultAt(int place, int what) {
            faultPlace = place;
            faultNumber = what;
            return false;
        }
    }

    /**
     * A map with all that turns change. One number a pin is enough for where it is:
     * by day LAST is its cell, and by night all but whales are in the tray.
     */
    private static final class Board {
        int cells;
        int pins;
        int slip;
        int time;
        int earned;
        boolean day;
        final int[] work = new int[MOST_CELLS];
        final int[] home = new int[MOST_PINS];
        final int[] skill = new int[MOST_PINS];
        final int[] colour = new int[MOST_PINS];
        final int[] kind = new int[MOST_PINS];
        final int[] last = new int[MOST_PINS];

        boolean stands() {
            return cells > 0;
        }

        boolean hasPin(int pin) {
            return within(pin, 0, pins - 1);
        }

        boolean hasCell(int cell) {
            return within(cell, 0, cells - 1);
        }

        void makeEmpty() {
            cells = 0;
            pins = 0;
            slip = 0;
            time = 0;
            earned = 0;
            day = true;
        }

        void takeFrom(Board other) {
            cells = other.cells;
            pins = other.pins;
            slip = other.slip;
            time = other.time;
            earned = other.earned;
            day = other.day;
            System.arraycopy(other.work, 0, work, 0, MOST_CELLS);
            System.arraycopy(other.home, 0, home, 0, MOST_PINS);
            System.arraycopy(other.skill, 0, skill, 0, MOST_PINS);
            System.arraycopy(other.colour, 0, colour, 0, MOST_PINS);
            System.arraycopy(other.kind, 0, kind, 0, MOST_PINS);
            System.arraycopy(other.last, 0, last, 0, MOST_PINS);
        }

        void turn() {
            if (day) {
                day = false;
            } else {
                openAndWork();
            }
            time++;
        }

        void openAndWork() {
            open(0);
            earned = Math.min(MOST_EARNED, earned + yieldOfAll());
        }

        /**
         * Left: bits of the pins that stay in the tray. What closing changes does not matter here,
         * as LAST by day is the cell: so it may be called by day, too, for both turns together.
         */
        void open(int left) {
            for (int pin = 0; pin < pins; pin++) {
                if (isSet(left, pin)) {
                    continue;
                }
                if (kind[pin] == MIXED) {
                    mix(pin);
                } else if (kind[pin] == ROVER && cells > 0) {
                    last[pin] = (last[pin] + slip) % cells;
                } else if (kind[pin] == OLD) {
                    last[pin] = home[pin];
                }
            }
            day = true;
        }

        private void mix(int pin) {
            for (int other = pin + 1; other < pins; other++) {
                if (colour[other] == colour[pin] && kind[other] != WHALE) {
                    change(pin, other);
                    return;
                }
            }
        }

        void change(int one, int other) {
            int cell = last[one];
            last[one] = last[other];
            last[other] = cell;
        }

        private int yieldOfAll() {
            int sum = 0;
            for (int pin = 0; pin < pins; pin++) {
                int crowd = Integer.bitCount(pinsIn(last[pin]));
                sum += crowd > 0 ? worth(pin, last[pin]) / crowd : 0;
            }
            return sum;
        }

        int worth(int pin, int cell) {
            return within(cell, 0, cells - 1) ? skill[pin] * work[cell] : 0;
        }

        /** The cell of a pin; nowhere, if it is in the tray. */
        int place(int pin) {
            return day || kind[pin] == WHALE ? last[pin] : NONE;
        }

        int pinsInTray() {
            int bits = 0;
            for (int pin = 0; pin < pins; pin++) {
                bits |= place(pin) == NONE ? 1 << pin : 0;
            }
            return bits;
        }

        int pinsIn(int cell) {
            int bits = 0;
            for (int pin = 0; pin < pins; pin++) {
                bits |= place(pin) == cell ? 1 << pin : 0;
            }
            return bits;
        }

        int owner(int cell) {
            for (int pin = 0; pin < pins; pin++) {
                if (home[pin] == cell) {
                    return pin;
                }
            }
            return NONE;
        }

        int pinsAtHome() {
            int bits = 0;
            for (int pin = 0; pin < pins; pin++) {
                bits |= place(pin) == home[pin] ? 1 << pin : 0;
            }
            return bits;
        }

        /** A ring of pins, each in the home of the next, takes one change less than it has pins. */
        int fewestChanges() {
            if (!day || !fillsHomes()) {
                return NONE;
            }
            int rings = 0;
            int seen = 0;
            for (int pin = 0; pin < pins; pin++) {
                rings += isSet(seen, pin) ? 0 : 1;
                seen |= ringOf(pin);
            }
            return pins - rings;
        }

        private boolean fillsHomes() {
            int held = 0;
            int homes = 0;
            for (int pin = 0; pin < pins; pin++) {
                held |= 1 << last[pin];
                homes |= 1 << home[pin];
            }
            return held == homes && Integer.bitCount(held) == pins;
        }

        private int ringOf(int pin) {
            int ring = 0;
            int member = pin;
            for (int k = 0; k < pins && hasPin(member); k++) {
                ring |= 1 << member;
                member = owner(last[member]);
            }
            return ring;
        }
    }

    /** What is foretold: all is done to a trial board, so that the board itself stays. */
    private static final class Foresight {
        final Board trial = new Board();
        private final Board board;

        Foresight(Board board) {
            this.board = board;
        }

        void goOn(int turns) {
            trial.takeFrom(board);
            for (int d = 0; d < turns; d++) {
                trial.turn();
            }
        }

        int turnsTillIn(int pin, int cell) {
            trial.takeFrom(board);
            for (int d = 0; d <= MOST_AHEAD; d++) {
                if (trial.place(pin) == cell) {
                    return d;
                }
                trial.turn();
            }
            return NONE;
        }

        int turnsTillSame() {
            trial.takeFrom(board);
            for (int d = 1; d <= MOST_ROUND; d++) {
                trial.turn();
                if (isSamePlaces()) {
                    return d;
                }
            }
            return NONE;
        }

        private boolean isSamePlaces() {
            for (int pin = 0; pin < board.pins; pin++) {
                if (trial.place(pin) != board.place(pin)) {
                    return false;
                }
            }
            return true;
        }

        /**
         * The most that the pins from one on can be worth in the cells not taken.
         * The greatest skill in the cell of most work, and so on, is never less than another way.
         */
        int mostWorth(int firstPin, int takenCells) {
            int sum = 0;
            int placed = (1 << firstPin) - 1;
            int taken = takenCells;
            for (int k = firstPin; k < board.pins; k++) {
                int pin = strongest(placed);
                int cell = busiest(taken);
                if (pin == NONE || cell == NONE) {
                    return sum;
                }
                sum += board.worth(pin, cell);
                placed |= 1 << pin;
                taken |= 1 << cell;
            }
            return sum;
        }

        private int strongest(int placed) {
            int found = NONE;
            for (int pin = 0; pin < board.pins; pin++) {
                boolean free = !isSet(placed, pin);
                if (free && (found == NONE || board.skill[pin] > board.skill[found])) {
                    found = pin;
                }
            }
            return found;
        }

        private int busiest(int taken) {
            int found = NONE;
            for (int cell = 0; cell < board.cells; cell++) {
                boolean free = !isSet(taken, cell);
                if (free && (found == NONE || board.work[cell] > board.work[found])) {
                    found = cell;
                }
            }
            return found;
        }

        int bestCell(int wanted) {
            int wealth = mostWorth(0, 0);
            int taken = 0;
            int found = NONE;
            for (int pin = 0; pin <= wanted; pin++) {
                found = leastCell(pin, taken, wealth);
                if (found == NONE) {
                    return NONE;
                }
                taken |= 1 << found;
                wealth -= board.worth(pin, found);
            }
            return found;
        }

        private int leastCell(int pin, int taken, int wealth) {
            for (int cell = 0; cell < board.cells; cell++) {
                if (isSet(taken, cell)) {
                    continue;
                }
                int others = mostWorth(pin + 1, taken | 1 << cell);
                if (board.worth(pin, cell) + others == wealth) {
                    return cell;
                }
            }
            return NONE;
        }

        int fitting(int pin, int what, int[] items, int i, int n) {
            int bits = 0;
            int most = mostSupposed(what);
            for (int v = what == 0 ? AGENT : 0; v <= most; v++) {
                trial.takeFrom(board);
                suppose(pin, what, v);
                if (tells(items, i, n, pin)) {
                    bits |= 1 << v;
                }
            }
            return bits;
        }

        private int mostSupposed(int what) {
            switch (what) {
                case 0: return WHALE;
                case 1: return MOST_SLIP;
                default: return board.cells - 1;
            }
        }

        private void suppose(int pin, int what, int v) {
            switch (what) {
                case 0: trial.kind[pin] = v; break;
                case 1: trial.slip = v; break;
                case 2: trial.home[pin] = v; break;
                default: trial.last[pin] = v; break;
            }
        }

        private boolean tells(int[] items, int i, int n, int pin) {
            for (int k = 0; k < n && i + k < items.length; k++) {
                trial.open(0);
                if (trial.last[pin] != items[i + k]) {
                    return false;
                }
            }
            return true;
        }

        /** Every set of pins left out, each as often as it comes in 10 to the number of pins there. */
        int heldWhenLeftOut(int cell, int c, int what) {
            trial.takeFrom(board);
            trial.day = false;
            int tray = trial.pinsInTray();
            int above = 0;
            for (int left = 0; left <= tray; left++) {
                if ((left & ~tray) == 0 && isHeld(cell, left)) {
                    int stay = Integer.bitCount(left);
                    int come = Integer.bitCount(tray) - stay;
                    above += power(c, stay) * power(TENTHS - c, come);
                }
            }
            int below = power(TENTHS, Integer.bitCount(tray));
            int common = commonDivisor(below, above);
            return common > 0 ? (what == 0 ? above : below) / common : 0;
        }

        private boolean isHeld(int cell, int left) {
            trial.takeFrom(board);
            trial.open(left);
            return (trial.pinsIn(cell) & ~left) != 0;
        }

        private static int power(int base, int times) {
            int product = 1;
            for (int k = 0; k < times; k++) {
                product *= base;
            }
            return product;
        }

        private static int commonDivisor(int one, int other) {
            int a = one;
            int b = other;
            for (int k = 0; k < 100 && b > 0; k++) {
                int rest = a % b;
                a = b;
                b = rest;
            }
            return a;
        }

        void drawYears(int n, int seed) {
            trial.takeFrom(board);
            trial.earned = 0;
            long x = seed;
            for (int k = 0; k < n; k++) {
                x = x * DRAW_FACTOR % DRAW_DIVISOR;
                trial.slip = (int) (x % (MOST_SLIP + 1));
                if (trial.day && trial.pins > 0 && trial.cells > 0) {
                    trial.last[(int) (x % trial.pins)] = (int) (x % trial.cells);
                }
                trial.openAndWork();
            }
        }
    }

    /** The acts that can be undone: the board ahead of each, in a ring. */
    private static final class Past {
        int held;
        private int oldest;
        private final Board[] before = new Board[MOST_ACTS];

        Past() {
            for (int k = 0; k < MOST_ACTS; k++) {
                before[k] = new Board();
            }
        }

        void keep(Board board) {
            before[(oldest + held) % MOST_ACTS].takeFrom(board);
            if (held < MOST_ACTS) {
                held++;
            } else {
                oldest = (oldest + 1) % MOST_ACTS;
            }
        }

        void giveBack(Board board) {
            if (held > 0) {
                held--;
                board.takeFrom(before[(oldest + held) % MOST_ACTS]);
            }
        }

        void forget() {
            held = 0;
        }
    }

    /** The bodies by which pins are asked, and the trace that these leave. */
    private static final class Asks {
        final int[] numbers = new int[MOST_TRACE];
        int traced;
        private final Board board;

        Asks(Board board) {
            this.board = board;
        }

        void begin() {
            traced = 0;
        }

        int sizeOf(int pin) {
            if (isA(board.kind[pin], OLD)) {
                return sizeOfOldOne(pin);
            }
            if (board.kind[pin] != MIXED) {
                return body11(pin);
            }
            leave(12);
            return -body11(pin);
        }

        private int sizeOfOldOne(int pin) {
            if (board.kind[pin] != WHALE) {
                return body13(pin);
            }
            leave(14);
            return 2 * body13(pin);
        }

        int markOf(int pin) {
            return isA(board.kind[pin], OLD) ? body23(pin) : markOfAgent(pin);
        }

        private int markOfAgent(int pin) {
            if (board.kind[pin] == MIXED) {
                leave(24);
                return 2 * body21(pin);
            }
            if (board.kind[pin] != ROVER) {
                return body21(pin);
            }
            leave(22);
            return body21(pin) - 1000;
        }

        private int body10(int pin) {
            leave(10);
            return board.skill[pin];
        }

        private int body11(int pin) {
            leave(11);
            int lent = body10(pin);
            return lent + markOfAgent(pin);
        }

        private int body13(int pin) {
            leave(13);
            return body10(pin) - 100;
        }

        private int body20(int pin) {
            leave(20);
            return pin;
        }

        private int body21(int pin) {
            leave(21);
            return body20(pin) + board.last[pin];
        }

        private int body23(int pin) {
            leave(23);
            int lent = body20(pin);
            return lent - sizeOfOldOne(pin);
        }

        private void leave(int number) {
            if (traced < MOST_TRACE) {
                numbers[traced] = number;
                traced++;
            }
        }
    }
}
