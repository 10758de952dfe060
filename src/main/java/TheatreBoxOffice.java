import java.util.Arrays;
import java.util.NoSuchElementException;

/**
 * A theatre box office: a seat map, performances, best blocks of seats, holds, orders, exchanges,
 * refunds, accounts, a ledger, undo, and a replay of all commands.
 *
 * The public methods test their arguments and throw; the classes inside carry out what was tested.
 * All rows are made in the constructors and used again, so that calls make no objects.
 */
public final class TheatreBoxOffice {
    private static final int BUFFER_SIZE = 103;
    private static final int MAX_ROWS = 8;
    private static final int MAX_COLUMNS = 12;
    private static final int PLACES = MAX_ROWS * MAX_COLUMNS;
    private static final int MAX_PERFORMANCES = 6;
    private static final int MAX_SEATS = 8;
    private static final int MAX_HOLDS = 12;
    private static final int MAX_ORDERS = 20;
    private static final int MAX_PAYMENTS = 40;
    private static final int MAX_COMMANDS = 512;
    private static final int MAX_UNDO = 8;
    private static final int CATEGORIES = 4;
    private static final int CUSTOMERS = 10;
    private static final int MAX_TIME = 100000;
    private static final int MAX_ADVANCE = 10000;
    private static final int MAX_HOLD_MINUTES = 60;
    private static final int COMPANION_MINUTES = 60;
    private static final int REFUND_MINUTES = 120;
    private static final int MAX_PRICE = 100000;
    private static final int MIN_FACTOR = 10;
    private static final int MAX_FACTOR = 300;
    private static final int SERIES = 3;
    private static final int[] FIRST_PRICES = {4000, 3000, 2000, 1000};

    private static final int PLAIN = 0;
    private static final int ACCESSIBLE = 1;
    private static final int COMPANION = 2;

    private static final int FREE = 0;
    private static final int HELD = 1;
    private static final int SOLD = 2;
    private static final int BLOCKED = 3;
    private static final int NO_SEAT = 4;
    private static final int NOBODY = -1;

    private static final int NO_REASON = 0;
    private static final int NO_BLOCK = 1;
    private static final int LIMIT = 2;
    private static final int STARTED = 3;
    private static final int NOT_FREE = 4;
    private static final int NO_TICKET = 5;
    private static final int SECOND_TICKET = 6;
    private static final int NOTHING_TO_DO = 7;

    private static final int ADD_PERFORMANCE = 1;
    private static final int SET_PRICE = 2;
    private static final int SET_FOCUS = 3;
    private static final int SET_RULE = 4;
    private static final int BLOCK = 5;
    private static final int ADVANCE = 6;
    private static final int HOLD = 7;
    private static final int RELEASE = 8;
    private static final int CONFIRM = 9;
    private static final int EXCHANGE = 10;
    private static final int REFUND = 11;
    private static final int COMMAND_WIDTH = 7;

    private static final int PAID = 1;
    private static final int EXCHANGED = 2;
    private static final int REFUNDED = 3;
    private static final int PAYMENT_KIND = 0;
    private static final int PAYMENT_CUSTOMER = 1;
    private static final int PAYMENT_AMOUNT = 2;
    private static final int PAYMENT_WIDTH = 3;

    private static final int START = 0;
    private static final int FACTOR = 1;
    private static final int KEPT = 2;
    private static final int PERFORMANCE_WIDTH = 3;

    // The first columns of a hold and of a ticket stand in the order of the numbers that heldBy and ticket take.
    private static final int HOLD_CUSTOMER = 0;
    private static final int HOLD_SET = 1;
    private static final int HOLD_ROW = 2;
    private static final int HOLD_COLUMN = 3;
    private static final int HOLD_SEATS = 4;
    private static final int HOLD_EXPIRY = 5;
    private static final int HOLD_NUMBER = 6;
    private static final int HOLD_WIDTH = 7;

    private static final int TICKET_CUSTOMER = 0;
    private static final int TICKET_ROW = 1;
    private static final int TICKET_COLUMN = 2;
    private static final int TICKET_SEATS = 3;
    private static final int TICKET_AMOUNT = 4;
    private static final int TICKET_ORDER = 5;
    private static final int TICKET_PERFORMANCE = 6;
    private static final int TICKET_WIDTH = 7;

    private final char[] buffer = new char[BUFFER_SIZE];
    private int buffered;
    private int lastError = -1;
    private int lastReason = NO_REASON;

    private final Office now = new Office();
    private final Table log = new Table(MAX_COMMANDS, COMMAND_WIDTH);

    private final Office[] past = new Office[MAX_UNDO];
    private int newest;
    private int undoable;

    private final Office replayed = new Office();

    private final Office saved = new Office();
    private final Table savedLog = new Table(MAX_COMMANDS, COMMAND_WIDTH);
    private boolean hasSaved;

    public TheatreBoxOffice() {
        for (int i = 0; i < past.length; i++) {
            past[i] = new Office();
        }
        now.hall.drawFirst();
        now.startAnew();
    }

    public int append(char character) throws IllegalArgumentException, IllegalStateException {
        if (character < 32 || character > 126) {
            throw new IllegalArgumentException("the code is not from 32 to 126");
        }
        if (buffered >= buffer.length) {
            refuse(LIMIT);
        }
        buffer[buffered] = character;
        buffered++;
        return buffered;
    }

    public int load() throws IllegalArgumentException, UnsupportedOperationException {
        int size = buffered;
        buffered = 0;
        int error = Hall.errorIn(buffer, size);
        if (error >= 0) {
            lastError = error;
            throw new IllegalArgumentException("the map is malformed");
        }
        if (Hall.rowsIn(buffer, size) > MAX_ROWS || Hall.columnsIn(buffer, size) > MAX_COLUMNS) {
            throw new UnsupportedOperationException("the map is too large");
        }
        now.hall.draw(buffer, size);
        now.startAnew();
        log.clear();
        undoable = 0;
        return now.hall.seats;
    }

    public int errorPosition() throws NoSuchElementException {
        if (lastError < 0) {
            throw new NoSuchElementException("no text was malformed");
        }
        return lastError;
    }

    public int place(int row, int column, int what) throws IndexOutOfBoundsException, IllegalArgumentException {
        if (!now.hall.has(row, column)) {
            throw new IndexOutOfBoundsException("no such place");
        }
        switch (what) {
            case 0: return now.hall.categoryOf(row, column);
            case 1: return now.hall.kindOf(row, column);
            case 2: return now.distanceOf(row, column);
            default: throw new IllegalArgumentException("what is out of range");
        }
    }

    public int addPerformance(int start, int factor) throws IllegalArgumentException, IllegalStateException {
        if (start <= now.time || start > MAX_TIME || factor < MIN_FACTOR || factor > MAX_FACTOR) {
            throw new IllegalArgumentException("the start or the factor is out of range");
        }
        if (now.performances.size >= MAX_PERFORMANCES) {
            refuse(LIMIT);
        }
        remember(ADD_PERFORMANCE, start, factor, 0, 0, 0, 0);
        return now.openPerformance(start, factor);
    }

    public int setPrice(int category, int price) throws IndexOutOfBoundsException, IllegalArgumentException {
        if (category < 1 || category > CATEGORIES) {
            throw new IndexOutOfBoundsException("no such category");
        }
        if (price < 0 || price > MAX_PRICE) {
            throw new IllegalArgumentException("the price is out of range");
        }
        remember(SET_PRICE, category, price, 0, 0, 0, 0);
        return now.changePrice(category, price);
    }

    public int setFocus(int row) throws IndexOutOfBoundsException {
        if (row < 0 || row >= now.hall.rows) {
            throw new IndexOutOfBoundsException("no such row");
        }
        remember(SET_FOCUS, row, 0, 0, 0, 0, 0);
        return now.changeFocus(row);
    }

    public boolean setRule(boolean on) {
        remember(SET_RULE, on ? 1 : 0, 0, 0, 0, 0, 0);
        return now.changeRule(on);
    }

    public boolean block(int performance, int row, int column, boolean on)
            throws IndexOutOfBoundsException, IllegalArgumentException, IllegalStateException {
        requirePlace(performance, row, column);
        int before = now.seating.stateOf(performance, row, column);
        if (before == NO_SEAT) {
            throw new IllegalArgumentException("the place is no seat");
        }
        if (before == HELD || before == SOLD) {
            refuse(NOT_FREE);
        }
        remember(BLOCK, performance, row, column, on ? 1 : 0, 0, 0);
        now.changeBlock(performance, row, column, on);
        return before == BLOCKED;
    }

    public int state(int performance, int row, int column) throws IndexOutOfBoundsException {
        requirePlace(performance, row, column);
        return now.seating.stateOf(performance, row, column);
    }

    public int holder(int performance, int row, int column)
            throws IndexOutOfBoundsException, NoSuchElementException {
        requirePlace(performance, row, column);
        int owner = now.seating.ownerOf(performance, row, column);
        if (owner == NOBODY) {
            throw new NoSuchElementException("the place is neither held nor sold");
        }
        return owner;
    }

    public int advance(int minutes) throws IllegalArgumentException, IllegalStateException {
        if (minutes < 1 || minutes > MAX_ADVANCE) {
            throw new IllegalArgumentException("the number of minutes is out of range");
        }
        if (now.time + minutes > MAX_TIME) {
            refuse(LIMIT);
        }
        remember(ADVANCE, minutes, 0, 0, 0, 0, 0);
        return now.passTime(minutes);
    }

    public int blockCount(int performances, int seats, int category, int kind)
            throws IndexOutOfBoundsException, IllegalArgumentException {
        requireSet(performances);
        requireRequest(seats, category, kind);
        now.finder.look(now, performances, seats, category, kind);
        return now.finder.fitting;
    }

    public int best(int performances, int seats, int category, int kind, int what)
            throws IndexOutOfBoundsException, IllegalArgumentException, NoSuchElementException {
        requireSet(performances);
        requireRequest(seats, category, kind);
        if (what < 0 || what > 4) {
            throw new IllegalArgumentException("what is out of range");
        }
        now.finder.look(now, performances, seats, category, kind);
        if (now.finder.fitting == 0) {
            throw new NoSuchElementException("no block fits");
        }
        switch (what) {
            case 0: return now.finder.row;
            case 1: return now.finder.column;
            case 2: return now.finder.distance;
            case 3: return now.finder.orphans;
            default: return now.priceInAll(performances, now.finder.row, now.finder.column, seats);
        }
    }

    public int hold(int customer, int performances, int seats, int category, int kind, int minutes)
            throws IndexOutOfBoundsException, IllegalArgumentException, IllegalStateException {
        requireCustomer(customer);
        requireSet(performances);
        requireRequest(seats, category, kind);
        if (minutes < 1 || minutes > MAX_HOLD_MINUTES) {
            throw new IllegalArgumentException("the number of minutes is out of range");
        }
        refuse(now.refusalOfHold(performances, seats, category, kind));
        remember(HOLD, customer, performances, seats, category, kind, minutes);
        return now.makeHold(customer, performances, seats, category, kind, minutes);
    }

    public int release(int hold) throws NoSuchElementException {
        requireHold(hold);
        remember(RELEASE, hold, 0, 0, 0, 0, 0);
        return now.giveUpHold(hold);
    }

    public int confirm(int hold) throws NoSuchElementException, IllegalStateException {
        requireHold(hold);
        refuse(now.refusalOfSale(hold));
        remember(CONFIRM, hold, 0, 0, 0, 0, 0);
        return now.sell(hold);
    }

    public int heldBy(int hold, int what) throws NoSuchElementException, IllegalArgumentException {
        requireHold(hold);
        if (what < HOLD_CUSTOMER || what > HOLD_EXPIRY) {
            throw new IllegalArgumentException("what is out of range");
        }
        return now.holds.at(now.holdIndex(hold), what);
    }

    public int ticket(int order, int performance, int what) throws NoSuchElementException, IllegalArgumentException {
        int index = now.ticketIndex(order, performance);
        if (index < 0) {
            throw new NoSuchElementException("no such ticket");
        }
        if (what < TICKET_CUSTOMER || what > TICKET_AMOUNT) {
            throw new IllegalArgumentException("what is out of range");
        }
        return now.tickets.at(index, what);
    }

    public int exchange(int order, int from, int to) throws IndexOutOfBoundsException, IllegalStateException {
        requirePerformance(to);
        refuse(now.refusalOfExchange(order, from, to));
        remember(EXCHANGE, order, from, to, 0, 0, 0);
        return now.swapTicket(order, from, to);
    }

    public int refund(int order, int performance) throws IllegalStateException {
        refuse(now.refusalOfRefund(order, performance));
        remember(REFUND, order, performance, 0, 0, 0, 0);
        return now.payBack(order, performance);
    }

    public int performance(int performance, int what) throws IndexOutOfBoundsException, IllegalArgumentException {
        requirePerformance(performance);
        switch (what) {
            case 0: return now.performances.at(performance, START);
            case 1: return now.performances.at(performance, FACTOR);
            case 2: return now.revenueOf(performance);
            case 3: return now.seating.number(performance, FREE);
            case 4: return now.seating.number(performance, HELD);
            case 5: return now.seating.number(performance, SOLD);
            case 6: return now.seating.number(performance, BLOCKED);
            case 7: return now.valueOfFree(performance);
            default: throw new IllegalArgumentException("what is out of range");
        }
    }

    public int account(int customer) throws IndexOutOfBoundsException {
        requireCustomer(customer);
        return now.accounts[customer];
    }

    public double soldShare(int performance) throws IndexOutOfBoundsException, ArithmeticException {
        requirePerformance(performance);
        if (now.hall.seats == 0) {
            throw new ArithmeticException("the hall has no seats");
        }
        return (double) now.seating.number(performance, SOLD) / (double) now.hall.seats;
    }

    public float meanAmount() throws ArithmeticException {
        int seats = now.tickets.sum(TICKET_SEATS);
        if (seats == 0) {
            throw new ArithmeticException("there are no tickets");
        }
        return (float) now.tickets.sum(TICKET_AMOUNT) / (float) seats;
    }

    public int count(int what) throws IllegalArgumentException {
        switch (what) {
            case 0: return now.time;
            case 1: return now.performances.size;
            case 2: return now.holds.size;
            case 3: return now.orders();
            case 4: return now.tickets.size;
            case 5: return now.holdsMade;
            case 6: return now.hall.seats;
            case 7: return log.size;
            default: throw new IllegalArgumentException("what is out of range");
        }
    }

    public int ledger(int index, int column) throws IndexOutOfBoundsException {
        if (index == -1) {
            return now.payments.size;
        }
        if (!now.payments.has(index, column)) {
            throw new IndexOutOfBoundsException("no such entry or column");
        }
        return now.payments.at(index, column);
    }

    public int reason() {
        return lastReason;
    }

    public int undo() throws IllegalStateException {
        if (undoable <= 0) {
            refuse(NOTHING_TO_DO);
        }
        Office before = past[newest];
        if (before != null) {
            now.copyFrom(before);
        }
        newest = Math.floorMod(newest - 1, MAX_UNDO);
        undoable--;
        log.remove(log.size - 1);
        return undoable;
    }

    public boolean isReplayed() {
        replayed.hall.copyFrom(now.hall);
        replayed.startAnew();
        for (int i = 0; i < log.size; i++) {
            replayed.repeat(log, i);
        }
        return replayed.sameAs(now);
    }

    public int snapshot() {
        saved.copyFrom(now);
        savedLog.copyFrom(log);
        hasSaved = true;
        return now.time;
    }

    public int restore() throws IllegalStateException {
        if (!hasSaved) {
            refuse(NOTHING_TO_DO);
        }
        now.copyFrom(saved);
        log.copyFrom(savedLog);
        undoable = 0;
        return now.time;
    }

    /** Keeps the reason and throws, if there is a reason. */
    private void refuse(int why) {
        if (why != NO_REASON) {
            lastReason = why;
            throw new IllegalStateException("refused; the reason is kept");
        }
    }

    /** Comes before the change that a command makes, when nothing can refuse the command any more. */
    private void remember(int command, int a, int b, int c, int d, int e, int f) {
        newest = Math.floorMod(newest + 1, MAX_UNDO);
        Office before = past[newest];
        if (before != null) {
            before.copyFrom(now);
        }
        undoable = Math.min(undoable + 1, MAX_UNDO);
        int row = log.add();
        log.put(row, 0, command);
        log.put(row, 1, a);
        log.put(row, 2, b);
        log.put(row, 3, c);
        log.put(row, 4, d);
        log.put(row, 5, e);
        log.put(row, 6, f);
    }

    private void requireCustomer(int customer) {
        if (customer < 0 || customer >= CUSTOMERS) {
            throw new IndexOutOfBoundsException("no such customer");
        }
    }

    private void requirePerformance(int performance) {
        if (performance < 0 || performance >= now.performances.size) {
            throw new IndexOutOfBoundsException("no such performance");
        }
    }

    private void requirePlace(int performance, int row, int column) {
        requirePerformance(performance);
        if (!now.hall.has(row, column)) {
            throw new IndexOutOfBoundsException("no such place");
        }
    }

    private void requireSet(int performances) {
        if (performances <= 0 || performances >= 1 << now.performances.size) {
            throw new IndexOutOfBoundsException("the set is empty or contains what is no performance");
        }
    }

    private void requireRequest(int seats, int category, int kind) {
        if (seats < 1 || seats > MAX_SEATS || category < 0 || category > CATEGORIES || kind < 0 || kind > 1) {
            throw new IllegalArgumentException("the number of seats, the category or the kind is out of range");
        }
    }

    private void requireHold(int hold) {
        if (now.holdIndex(hold) < 0) {
            throw new NoSuchElementException("no such hold");
        }
    }

    private static boolean contains(int set, int performance) {
        return (set >> performance & 1) == 1;
    }

    /** Both arrays have at least this length. */
    private static boolean areSame(int[] one, int[] other, int length) {
        for (int i = 0; i < length && i < one.length && i < other.length; i++) {
            if (one[i] != other[i]) {
                return false;
            }
        }
        return true;
    }

    /** Rows of numbers, in the order in which they were added. */
    private static final class Table {
        private final int width;
        private final int[] cells;
        int size;

        Table(int capacity, int width) {
            this.width = Math.max(1, width);
            cells = new int[Math.max(0, capacity) * this.width];
        }

        boolean has(int row, int column) {
            return row >= 0 && row < size && column >= 0 && column < width;
        }

        int at(int row, int column) {
            boolean has = row >= 0 && row < size && column >= 0 && column < width;
            return has ? cells[row * width + column] : 0;
        }

        void put(int row, int column, int value) {
            if (has(row, column)) {
                cells[row * width + column] = value;
            }
        }

        /** Adds a row, and returns its index, or -1 if the table is full. */
        int add() {
            if ((size + 1) * width > cells.length) {
                return -1;
            }
            size++;
            return size - 1;
        }

        void remove(int row) {
            if (row < 0 || row >= size) {
                return;
            }
            System.arraycopy(cells, (row + 1) * width, cells, row * width, (size - row - 1) * width);
            size--;
        }

        void clear() {
            size = 0;
        }

        int sum(int column) {
            int sum = 0;
            for (int row = 0; row < size; row++) {
                sum += at(row, column);
            }
            return sum;
        }

        void copyFrom(Table other) {
            int length = Math.min(other.size * other.width, cells.length);
            System.arraycopy(other.cells, 0, cells, 0, length);
            size = other.size;
        }

        boolean sameAs(Table other) {
            return size == other.size && areSame(cells, other.cells, size * width);
        }
    }

    /** The map of the hall, and the reading of its text. */
    private static final class Hall {
        final int[] categories = new int[PLACES];
        final int[] kinds = new int[PLACES];
        int rows;
        int columns;
        int seats;

        boolean has(int row, int column) {
            return row >= 0 && row < rows && column >= 0 && column < columns;
        }

        int categoryOf(int row, int column) {
            return has(row, column) ? categories[row * MAX_COLUMNS + column] : 0;
        }

        int kindOf(int row, int column) {
            return has(row, column) ? kinds[row * MAX_COLUMNS + column] : PLAIN;
        }

        void drawFirst() {
            rows = 3;
            columns = 6;
            seats = 0;
            for (int row = 0; row < rows; row++) {
                for (int column = 0; column < columns; column++) {
                    put(row, column, '2');
                }
            }
        }

        /** Draws a text that is a map of at most the largest size. */
        void draw(char[] text, int size) {
            rows = rowsIn(text, size);
            columns = columnsIn(text, size);
            seats = 0;
            int row = 0;
            int column = 0;
            for (int i = 0; i < size && i < text.length; i++) {
                if (text[i] == '/') {
                    row++;
                    column = 0;
                } else {
                    put(row, column, text[i]);
                    column++;
                }
            }
        }

        private void put(int row, int column, char sign) {
            if (row < 0 || row >= MAX_ROWS || column < 0 || column >= MAX_COLUMNS) {
                return;
            }
            int category = categoryFor(sign);
            categories[row * MAX_COLUMNS + column] = category;
            kinds[row * MAX_COLUMNS + column] = sign == 'w' ? ACCESSIBLE : sign == 'c' ? COMPANION : PLAIN;
            if (category > 0) {
                seats++;
            }
        }

        void copyFrom(Hall other) {
            System.arraycopy(other.categories, 0, categories, 0, PLACES);
            System.arraycopy(other.kinds, 0, kinds, 0, PLACES);
            rows = other.rows;
            columns = other.columns;
            seats = other.seats;
        }

        private static int categoryFor(char sign) {
            if (sign == 'w' || sign == 'c') {
                return 1;
            }
            return sign >= '1' && sign <= '4' ? sign - '0' : 0;
        }

        private static boolean isPlace(char sign) {
            return sign == '.' || categoryFor(sign) > 0;
        }

        static int rowsIn(char[] text, int size) {
            int rows = 1;
            for (int i = 0; i < size && i < text.length; i++) {
                if (text[i] == '/') {
                    rows++;
                }
            }
            return rows;
        }

        static int columnsIn(char[] text, int size) {
            for (int i = 0; i < size && i < text.length; i++) {
                if (text[i] == '/') {
                    return i;
                }
            }
            return size;
        }

        /** The error position, or -1 if the text is a map, of whatever size. */
        static int errorIn(char[] text, int size) {
            int width = 0; // 0 as long as the first row goes on: it may have any number of places
            int places = 0;
            for (int i = 0; i < size && i < text.length; i++) {
                if (text[i] == '/') {
                    if (places == 0 || places < width) {
                        return i;
                    }
                    width = places;
                    places = 0;
                } else if (!isPlace(text[i]) || width > 0 && places == width) {
                    return i;
                } else {
                    places++;
                }
            }
            return places == 0 || places < width ? size : -1;
        }
    }

    /** The states of all places in all performances, and whose they are. */
    private static final class Seating {
        private static final int CELLS = MAX_PERFORMANCES * PLACES;
        private final int[] states = new int[CELLS];
        private final int[] owners = new int[CELLS];

        /** Places outside of the hall have a state too, NO_SEAT; so has all that is no place. */
        private static int cellOf(int performance, int row, int column) {
            if (performance < 0 || performance >= MAX_PERFORMANCES || row < 0 || row >= MAX_ROWS
                    || column < 0 || column >= MAX_COLUMNS) {
                return -1;
            }
            return performance * PLACES + row * MAX_COLUMNS + column;
        }

        int stateOf(int performance, int row, int column) {
            int cell = cellOf(performance, row, column);
            return cell < 0 ? NO_SEAT : states[cell];
        }

        int ownerOf(int performance, int row, int column) {
            int cell = cellOf(performance, row, column);
            return cell < 0 ? NOBODY : owners[cell];
        }

        void put(int performance, int row, int column, int state, int owner) {
            int cell = cellOf(performance, row, column);
            if (cell >= 0) {
                states[cell] = state;
                owners[cell] = owner;
            }
        }

        void clear() {
            Arrays.fill(states, NO_SEAT);
            Arrays.fill(owners, NOBODY);
        }

        void open(int performance, Hall hall) {
            for (int row = 0; row < hall.rows; row++) {
                for (int column = 0; column < hall.columns; column++) {
                    put(performance, row, column, hall.categoryOf(row, column) > 0 ? FREE : NO_SEAT, NOBODY);
                }
            }
        }

        /** Gives a block the same state in each performance of a set. */
        void mark(int set, int row, int first, int seats, int state, int owner) {
            for (int performance = 0; performance < MAX_PERFORMANCES; performance++) {
                if (contains(set, performance)) {
                    for (int i = 0; i < seats; i++) {
                        put(performance, row, first + i, state, owner);
                    }
                }
            }
        }

        /** The performances of a set in which a place, told by its index in the hall, is a seat that is free. */
        int freeIn(int set, int place) {
            int free = 0;
            if (place < 0 || place >= PLACES) {
                return free;
            }
            for (int performance = 0; performance < MAX_PERFORMANCES; performance++) {
                if (contains(set, performance) && states[performance * PLACES + place] == FREE) {
                    free |= 1 << performance;
                }
            }
            return free;
        }

        int number(int performance, int state) {
            int number = 0;
            for (int row = 0; row < MAX_ROWS; row++) {
                for (int column = 0; column < MAX_COLUMNS; column++) {
                    if (stateOf(performance, row, column) == state) {
                        number++;
                    }
                }
            }
            return number;
        }

        void copyFrom(Seating other) {
            System.arraycopy(other.states, 0, states, 0, CELLS);
            System.arraycopy(other.owners, 0, owners, 0, CELLS);
        }

        boolean sameAs(Seating other) {
            return areSame(states, other.states, CELLS) && areSame(owners, other.owners, CELLS);
        }
    }

    /** Looks for blocks; what it found stays in its fields until it looks again. */
    private static final class Finder {
        private final int[] free = new int[PLACES];
        private final boolean[] usable = new boolean[PLACES];
        private int seats;
        int fitting;
        int row;
        int column;
        int distance;
        int orphans;

        void look(Office office, int set, int seats, int category, int kind) {
            this.seats = seats;
            fitting = 0;
            readPlaces(office, set, category, kind);
            for (int r = 0; r < office.hall.rows; r++) {
                for (int c = 0; c + seats <= office.hall.columns; c++) {
                    if (fits(office.hall, kind, r, c)) {
                        fitting++;
                        weigh(office, r, c);
                    }
                }
            }
        }

        private void readPlaces(Office office, int set, int category, int kind) {
            boolean companions = kind == 1 || office.startingBy(set, office.time + COMPANION_MINUTES) == set;
            for (int i = 0; i < PLACES; i++) {
                int special = office.hall.kinds[i];
                free[i] = office.seating.freeIn(set, i);
                usable[i] = free[i] == set
                        && (category == 0 || office.hall.categories[i] == category)
                        && (special != ACCESSIBLE || kind == 1)
                        && (special != COMPANION || companions);
            }
        }

        private boolean fits(Hall hall, int kind, int r, int first) {
            int accessible = 0;
            for (int c = first; c < first + seats; c++) {
                if (!isUsable(r, c)) {
                    return false;
                }
                if (hall.kindOf(r, c) == ACCESSIBLE) {
                    accessible++;
                }
            }
            return kind == 0 || accessible == 1;
        }

        private boolean isUsable(int r, int c) {
            return r >= 0 && r < MAX_ROWS && c >= 0 && c < MAX_COLUMNS && usable[r * MAX_COLUMNS + c];
        }

        private int freeAt(int r, int c) {
            return r >= 0 && r < MAX_ROWS && c >= 0 && c < MAX_COLUMNS ? free[r * MAX_COLUMNS + c] : 0;
        }

        /** Keeps a block that fits if it is better than the one before; of equal ones, the earlier stays. */
        private void weigh(Office office, int r, int first) {
            int newDistance = 0;
            for (int i = 0; i < seats; i++) {
                newDistance += office.distanceOf(r, first + i);
            }
            int newOrphans = orphansOf(r, first);
            boolean better = fitting == 1
                    || office.rule && newOrphans < orphans
                    || (!office.rule || newOrphans == orphans) && newDistance < distance;
            if (better) {
                row = r;
                column = first;
                distance = newDistance;
                orphans = newOrphans;
            }
        }

        /** An orphan needs one performance in which the neighbor is free and the place behind it is not. */
        private int orphansOf(int r, int first) {
            int left = freeAt(r, first - 1) & ~freeAt(r, first - 2);
            int right = freeAt(r, first + seats) & ~freeAt(r, first + seats + 1);
            return (left != 0 ? 1 : 0) + (right != 0 ? 1 : 0);
        }
    }

    /** All that commands change, and what they do; whoever calls has tested that they can be done. */
    private static final class Office {
        final Hall hall = new Hall();
        final Finder finder = new Finder();
        final Seating seating = new Seating();
        final Table performances = new Table(MAX_PERFORMANCES, PERFORMANCE_WIDTH);
        final Table holds = new Table(MAX_HOLDS, HOLD_WIDTH);
        final Table tickets = new Table(MAX_ORDERS * MAX_PERFORMANCES, TICKET_WIDTH);
        final Table payments = new Table(MAX_PAYMENTS, PAYMENT_WIDTH);
        final int[] accounts = new int[CUSTOMERS];
        private final int[] prices = new int[CATEGORIES];
        int time;
        private int focus;
        boolean rule;
        int holdsMade;

        /** Starts anew with the hall as it is. */
        void startAnew() {
            seating.clear();
            performances.clear();
            holds.clear();
            tickets.clear();
            payments.clear();
            Arrays.fill(accounts, 0);
            System.arraycopy(FIRST_PRICES, 0, prices, 0, CATEGORIES);
            time = 0;
            focus = hall.rows / 2;
            rule = true;
            holdsMade = 0;
        }

        void copyFrom(Office other) {
            hall.copyFrom(other.hall);
            seating.copyFrom(other.seating);
            performances.copyFrom(other.performances);
            holds.copyFrom(other.holds);
            tickets.copyFrom(other.tickets);
            payments.copyFrom(other.payments);
            System.arraycopy(other.accounts, 0, accounts, 0, CUSTOMERS);
            System.arraycopy(other.prices, 0, prices, 0, CATEGORIES);
            time = other.time;
            focus = other.focus;
            rule = other.rule;
            holdsMade = other.holdsMade;
        }

        boolean sameAs(Office other) {
            return time == other.time
                    && areSame(prices, other.prices, CATEGORIES)
                    && seating.sameAs(other.seating)
                    && holds.sameAs(other.holds)
                    && tickets.sameAs(other.tickets)
                    && areSame(accounts, other.accounts, CUSTOMERS)
                    && payments.sameAs(other.payments);
        }

        /** Carries out a row of the log once more. */
        void repeat(Table log, int index) {
            int a = log.at(index, 1);
            int b = log.at(index, 2);
            int c = log.at(index, 3);
            int d = log.at(index, 4);
            switch (log.at(index, 0)) {
                case ADD_PERFORMANCE: openPerformance(a, b); break;
                case SET_PRICE: changePrice(a, b); break;
                case SET_FOCUS: changeFocus(a); break;
                case SET_RULE: changeRule(a == 1); break;
                case BLOCK: changeBlock(a, b, c, d == 1); break;
                case ADVANCE: passTime(a); break;
                case HOLD: makeHold(a, b, c, d, log.at(index, 5), log.at(index, 6)); break;
                case RELEASE: giveUpHold(a); break;
                case CONFIRM: sell(a); break;
                case EXCHANGE: swapTicket(a, b, c); break;
                case REFUND: payBack(a, b); break;
                default: break;
            }
        }

        int openPerformance(int start, int factor) {
            int performance = performances.add();
            performances.put(performance, START, start);
            performances.put(performance, FACTOR, factor);
            performances.put(performance, KEPT, 0);
            seating.open(performance, hall);
            return performance;
        }

        int changePrice(int category, int price) {
            if (category < 1 || category > CATEGORIES) {
                return 0;
            }
            int before = prices[category - 1];
            prices[category - 1] = price;
            return before;
        }

        int changeFocus(int row) {
            int before = focus;
            focus = row;
            return before;
        }

        boolean changeRule(boolean on) {
            boolean before = rule;
            rule = on;
            return before;
        }

        void changeBlock(int performance, int row, int column, boolean on) {
            seating.put(performance, row, column, on ? BLOCKED : FREE, NOBODY);
        }

        int passTime(int minutes) {
            time += minutes;
            int expired = 0;
            for (int i = holds.size - 1; i >= 0; i--) {
                if (holds.at(i, HOLD_EXPIRY) <= time) {
                    markHold(i, FREE, NOBODY);
                    holds.remove(i);
                    expired++;
                }
            }
            return expired;
        }

        int refusalOfHold(int set, int seats, int category, int kind) {
            if (startingBy(set, time) != 0) {
                return STARTED;
            }
            finder.look(this, set, seats, category, kind);
            if (finder.fitting == 0) {
                return NO_BLOCK;
            }
            return holds.size >= MAX_HOLDS ? LIMIT : NO_REASON;
        }

        int makeHold(int customer, int set, int seats, int category, int kind, int minutes) {
            finder.look(this, set, seats, category, kind);
            int number = holdsMade;
            holdsMade++;
            int index = holds.add();
            holds.put(index, HOLD_CUSTOMER, customer);
            holds.put(index, HOLD_SET, set);
            holds.put(index, HOLD_ROW, finder.row);
            holds.put(index, HOLD_COLUMN, finder.column);
            holds.put(index, HOLD_SEATS, seats);
            holds.put(index, HOLD_EXPIRY, time + minutes);
            holds.put(index, HOLD_NUMBER, number);
            markHold(index, HELD, number);
            return number;
        }

        /** The index of a hold, or -1 if there is no such hold. */
        int holdIndex(int number) {
            for (int i = 0; i < holds.size; i++) {
                if (holds.at(i, HOLD_NUMBER) == number) {
                    return i;
                }
            }
            return -1;
        }

        private void markHold(int index, int state, int owner) {
            seating.mark(holds.at(index, HOLD_SET), holds.at(index, HOLD_ROW), holds.at(index, HOLD_COLUMN),
                    holds.at(index, HOLD_SEATS), state, owner);
        }

        int giveUpHold(int number) {
            int index = holdIndex(number);
            int left = holds.at(index, HOLD_EXPIRY) - time;
            markHold(index, FREE, NOBODY);
            holds.remove(index);
            return left;
        }

        int refusalOfSale(int number) {
            if (startingBy(holds.at(holdIndex(number), HOLD_SET), time) != 0) {
                return STARTED;
            }
            return orders() >= MAX_ORDERS ? LIMIT : NO_REASON;
        }

        int sell(int number) {
            int index = holdIndex(number);
            int total = 0;
            for (int performance = 0; performance < performances.size; performance++) {
                if (contains(holds.at(index, HOLD_SET), performance)) {
                    total += sellOne(index, performance);
                }
            }
            markHold(index, SOLD, number);
            holds.remove(index);
            return total;
        }

        private int sellOne(int index, int performance) {
            int customer = holds.at(index, HOLD_CUSTOMER);
            int row = holds.at(index, HOLD_ROW);
            int column = holds.at(index, HOLD_COLUMN);
            int seats = holds.at(index, HOLD_SEATS);
            int amount = priceOf(performance, row, column, seats);
            if (Integer.bitCount(holds.at(index, HOLD_SET)) >= SERIES) {
                amount -= amount / 10;
            }
            int ticket = tickets.add();
            tickets.put(ticket, TICKET_CUSTOMER, customer);
            tickets.put(ticket, TICKET_ROW, row);
            tickets.put(ticket, TICKET_COLUMN, column);
            tickets.put(ticket, TICKET_SEATS, seats);
            tickets.put(ticket, TICKET_AMOUNT, amount);
            tickets.put(ticket, TICKET_ORDER, holds.at(index, HOLD_NUMBER));
            tickets.put(ticket, TICKET_PERFORMANCE, performance);
            pay(PAID, customer, amount);
            return amount;
        }

        private void pay(int kind, int customer, int amount) {
            if (customer >= 0 && customer < CUSTOMERS) {
                accounts[customer] += amount;
            }
            if (payments.size >= MAX_PAYMENTS) {
                payments.remove(0);
            }
            int index = payments.add();
            payments.put(index, PAYMENT_KIND, kind);
            payments.put(index, PAYMENT_CUSTOMER, customer);
            payments.put(index, PAYMENT_AMOUNT, amount);
        }

        /** The number of orders with tickets; the tickets of an order always stand next to each other. */
        int orders() {
            int orders = 0;
            for (int i = 0; i < tickets.size; i++) {
                if (i == 0 || tickets.at(i, TICKET_ORDER) != tickets.at(i - 1, TICKET_ORDER)) {
                    orders++;
                }
            }
            return orders;
        }

        /** The index of a ticket, or -1 if there is no such ticket. */
        int ticketIndex(int order, int performance) {
            for (int i = 0; i < tickets.size; i++) {
                if (tickets.at(i, TICKET_ORDER) == order && tickets.at(i, TICKET_PERFORMANCE) == performance) {
                    return i;
                }
            }
            return -1;
        }

        private void markTicket(int index, int state, int owner) {
            int performance = tickets.at(index, TICKET_PERFORMANCE);
            seating.mark(1 << performance, tickets.at(index, TICKET_ROW), tickets.at(index, TICKET_COLUMN),
                    tickets.at(index, TICKET_SEATS), state, owner);
        }

        int refusalOfExchange(int order, int from, int to) {
            int index = ticketIndex(order, from);
            if (index < 0) {
                return NO_TICKET;
            }
            if (startingBy(1 << from | 1 << to, time) != 0) {
                return STARTED;
            }
            if (from != to && ticketIndex(order, to) >= 0) {
                return SECOND_TICKET;
            }
            finder.look(this, 1 << to, tickets.at(index, TICKET_SEATS), 0, kindOfTicket(index));
            return finder.fitting == 0 ? NO_BLOCK : NO_REASON;
        }

        /** The kind of the request with which a new block is looked for in an exchange. */
        private int kindOfTicket(int index) {
            int row = tickets.at(index, TICKET_ROW);
            int first = tickets.at(index, TICKET_COLUMN);
            int seats = tickets.at(index, TICKET_SEATS);
            for (int i = 0; i < seats; i++) {
                if (hall.kindOf(row, first + i) == ACCESSIBLE) {
                    return 1;
                }
            }
            return 0;
        }

        int swapTicket(int order, int from, int to) {
            int index = ticketIndex(order, from);
            int seats = tickets.at(index, TICKET_SEATS);
            finder.look(this, 1 << to, seats, 0, kindOfTicket(index));
            int amount = priceOf(to, finder.row, finder.column, seats);
            int difference = amount - tickets.at(index, TICKET_AMOUNT);
            markTicket(index, FREE, NOBODY);
            tickets.put(index, TICKET_PERFORMANCE, to);
            tickets.put(index, TICKET_ROW, finder.row);
            tickets.put(index, TICKET_COLUMN, finder.column);
            tickets.put(index, TICKET_AMOUNT, amount);
            markTicket(index, SOLD, order);
            pay(EXCHANGED, tickets.at(index, TICKET_CUSTOMER), difference);
            return difference;
        }

        int refusalOfRefund(int order, int performance) {
            if (ticketIndex(order, performance) < 0) {
                return NO_TICKET;
            }
            return startingBy(1 << performance, time) != 0 ? STARTED : NO_REASON;
        }

        int payBack(int order, int performance) {
            int index = ticketIndex(order, performance);
            int amount = tickets.at(index, TICKET_AMOUNT);
            boolean early = performances.at(performance, START) - time >= REFUND_MINUTES;
            int back = early ? amount : amount / 2;
            performances.put(performance, KEPT, performances.at(performance, KEPT) + amount - back);
            markTicket(index, FREE, NOBODY);
            pay(REFUNDED, tickets.at(index, TICKET_CUSTOMER), -back);
            tickets.remove(index);
            return back;
        }

        int distanceOf(int row, int column) {
            return Math.abs(2 * column - (hall.columns - 1)) + 4 * Math.abs(row - focus);
        }

        /** The performances of a set that start at a time or earlier. */
        int startingBy(int set, int latest) {
            int starting = 0;
            for (int performance = 0; performance < performances.size; performance++) {
                if (contains(set, performance) && performances.at(performance, START) <= latest) {
                    starting |= 1 << performance;
                }
            }
            return starting;
        }

        /** The sum of the prices of a block in a performance. */
        int priceOf(int performance, int row, int first, int seats) {
            int sum = 0;
            for (int i = 0; i < seats; i++) {
                int category = hall.categoryOf(row, first + i);
                if (category >= 1 && category <= CATEGORIES) {
                    sum += prices[category - 1] * performances.at(performance, FACTOR) / 100;
                }
            }
            return sum;
        }

        int priceInAll(int set, int row, int first, int seats) {
            int sum = 0;
            for (int performance = 0; performance < performances.size; performance++) {
                if (contains(set, performance)) {
                    sum += priceOf(performance, row, first, seats);
                }
            }
            return sum;
        }

        int valueOfFree(int performance) {
            int sum = 0;
            for (int row = 0; row < hall.rows; row++) {
                for (int column = 0; column < hall.columns; column++) {
                    if (seating.stateOf(performance, row, column) == FREE) {
                        sum += priceOf(performance, row, column, 1);
                    }
                }
            }
            return sum;
        }

        int revenueOf(int performance) {
            int sum = performances.at(performance, KEPT);
            for (int i = 0; i < tickets.size; i++) {
                if (tickets.at(i, TICKET_PERFORMANCE) == performance) {
                    sum += tickets.at(i, TICKET_AMOUNT);
                }
            }
            return sum;
        }
    }
}
