/**
 * A box office that counts its calls: beyond the 512th the document promises nothing, so no test
 * of an edge may go there.
 */
final class Box {
    static final int MOST_CALLS = 512;

    private final TheatreBoxOffice real = new TheatreBoxOffice();
    private int calls = 0;

    private TheatreBoxOffice next() {
        calls++;
        if (calls > MOST_CALLS) {
            throw new AssertionError("a test makes more calls than the document allows");
        }
        return real;
    }

    /** Types a text into the input buffer. */
    void type(String text) {
        for (int i = 0; i < text.length(); i++) {
            append(text.charAt(i));
        }
    }

    int append(char character) {
        return next().append(character);
    }

    int load() {
        return next().load();
    }

    int errorPosition() {
        return next().errorPosition();
    }

    int place(int row, int column, int what) {
        return next().place(row, column, what);
    }

    int addPerformance(int start, int factor) {
        return next().addPerformance(start, factor);
    }

    int setPrice(int category, int price) {
        return next().setPrice(category, price);
    }

    int setFocus(int row) {
        return next().setFocus(row);
    }

    boolean setRule(boolean on) {
        return next().setRule(on);
    }

    boolean block(int performance, int row, int column, boolean on) {
        return next().block(performance, row, column, on);
    }

    int state(int performance, int row, int column) {
        return next().state(performance, row, column);
    }

    int holder(int performance, int row, int column) {
        return next().holder(performance, row, column);
    }

    int advance(int minutes) {
        return next().advance(minutes);
    }

    int blockCount(int performances, int seats, int category, int kind) {
        return next().blockCount(performances, seats, category, kind);
    }

    int best(int performances, int seats, int category, int kind, int what) {
        return next().best(performances, seats, category, kind, what);
    }

    int hold(int customer, int performances, int seats, int category, int kind, int minutes) {
        return next().hold(customer, performances, seats, category, kind, minutes);
    }

    int release(int hold) {
        return next().release(hold);
    }

    int confirm(int hold) {
        return next().confirm(hold);
    }

    int heldBy(int hold, int what) {
        return next().heldBy(hold, what);
    }

    int ticket(int order, int performance, int what) {
        return next().ticket(order, performance, what);
    }

    int exchange(int order, int from, int to) {
        return next().exchange(order, from, to);
    }

    int refund(int order, int performance) {
        return next().refund(order, performance);
    }

    int performance(int performance, int what) {
        return next().performance(performance, what);
    }

    int account(int customer) {
        return next().account(customer);
    }

    double soldShare(int performance) {
        return next().soldShare(performance);
    }

    float meanAmount() {
        return next().meanAmount();
    }

    int count(int what) {
        return next().count(what);
    }

    int ledger(int index, int column) {
        return next().ledger(index, column);
    }

    int reason() {
        return next().reason();
    }

    int undo() {
        return next().undo();
    }

    boolean isReplayed() {
        return next().isReplayed();
    }

    int snapshot() {
        return next().snapshot();
    }

    int restore() {
        return next().restore();
    }
}
