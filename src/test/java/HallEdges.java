/** The edges of the new office, the hall, the map, performances, prices, and of the promises 1 to 13. */
final class HallEdges {
    private static final int MIN = Integer.MIN_VALUE;
    private static final int MAX = Integer.MAX_VALUE;
    private static final String LARGEST = Edge.rows(8, "1".repeat(12));

    private HallEdges() {
    }

    static void run() {
        newOffice();
        sizeOfHall();
        kindsOfPlaces();
        distance();
        inputBuffer();
        signsOfMap();
        rowsOfMap();
        largeMaps();
        errorPosition();
        numberOfPerformances();
        statesOfSeats();
        started();
        prices();
        priceOfSeat();
        append();
        load();
        loadLeaves();
        loadThrows();
        errorPositionKept();
        place();
        addPerformance();
        setPrice();
        setFocus();
        setRule();
        block();
        blockThrows();
        state();
        holder();
        advance();
        advanceThrows();
    }

    // Description

    private static void newOffice() {
        Edge.sentence("Description", "A new box office has a hall with 3 rows of 6 seats of the category 2, no "
                + "performances, the focus row 1 and the orphan rule.");
        for (int row = 0; row < 3; row++) {
            for (int column = 0; column < 6; column++) {
                int r = row;
                int c = column;
                Edge.due(2, Edge.NEW, b -> b.place(r, c, 0));
                Edge.due(0, Edge.NEW, b -> b.place(r, c, 1));
            }
        }
        Edge.due(18, Edge.NEW, b -> b.count(6));
        Edge.range(Edge.NEW, b -> b.place(3, 0, 0));
        Edge.range(Edge.NEW, b -> b.place(0, 6, 0));
        Edge.due(0, Edge.NEW, b -> b.count(1));
        Edge.due(1, Edge.NEW, b -> b.setFocus(2));
        Edge.due(true, Edge.NEW, b -> b.setRule(false));
        Edge.sentence("Promise 1", "Creates a box office.");
        for (int what = 0; what <= 7; what++) {
            int w = what;
            Edge.due(w == 6 ? 18 : 0, Edge.NEW, b -> b.count(w));
        }
        for (int customer = 0; customer <= 9; customer++) {
            int c = customer;
            Edge.due(0, Edge.NEW, b -> b.account(c));
        }
        Edge.due(0, Edge.NEW, b -> b.ledger(-1, 0));
        Edge.due(1, Edge.NEW, b -> b.append('1'));
        Edge.due(0, Edge.NEW, Box::reason);
        Edge.missing(Edge.NEW, Box::errorPosition);
        Edge.refused(7, Edge.NEW, Box::undo);
        Edge.refused(7, Edge.NEW, Box::restore);
        Edge.division(Edge.NEW, Box::meanAmount);
        Edge.asked(true, Edge.NEW, Box::isReplayed);
    }

    private static void sizeOfHall() {
        Edge.sentence("Description", "The hall has 1 to 8 rows with 1 to 12 places each; rows are numbered from 0 at "
                + "the stage, the places of a row, its columns, from 0.");
        Edge.due(1, Edge.type("1"), Box::load);
        Edge.due(8, Edge.type(Edge.rows(8, "1")), Box::load);
        Edge.due(12, Edge.type("1".repeat(12)), Box::load);
        Edge.due(96, Edge.type(LARGEST), Box::load);
        Edge.malformed(0, Edge.NEW, "");
        Edge.malformed(0, Edge.NEW, "/");
        Edge.malformed(2, Edge.NEW, "1/");
        Edge.tooLarge(Edge.NEW, Edge.rows(9, "1"));
        Edge.tooLarge(Edge.NEW, "1".repeat(13));
        Edge.due(1, Edge.hall("12/34"), b -> b.place(0, 0, 0));
        Edge.due(2, Edge.hall("12/34"), b -> b.place(0, 1, 0));
        Edge.due(3, Edge.hall("12/34"), b -> b.place(1, 0, 0));
        Edge.due(4, Edge.hall("12/34"), b -> b.place(1, 1, 0));
        Edge.due(4, Edge.hall(Edge.rows(7, ".".repeat(12)) + "/" + ".".repeat(11) + "4"), b -> b.place(7, 11, 0));
        Edge.range(Edge.hall(LARGEST), b -> b.place(8, 0, 0));
        Edge.range(Edge.hall(LARGEST), b -> b.place(0, 12, 0));
        Edge.range(Edge.hall("1"), b -> b.place(1, 0, 0));
        Edge.range(Edge.hall("1"), b -> b.place(0, 1, 0));
    }

    private static void kindsOfPlaces() {
        Edge.sentence("Description", "A place is no seat, a seat of one of the categories 1 to 4, an accessible place, "
                + "or a companion seat; the last two have the category 1.");
        int[] categories = {0, 1, 2, 3, 4, 1, 1};
        int[] kinds = {0, 0, 0, 0, 0, 1, 2};
        for (int column = 0; column < 7; column++) {
            int c = column;
            Edge.due(categories[c], Edge.hall(".1234wc"), b -> b.place(0, c, 0));
            Edge.due(kinds[c], Edge.hall(".1234wc"), b -> b.place(0, c, 1));
        }
        Edge.due(4000 + 4000 + 3000, Edge.open("wc2", 9), b -> b.performance(0, 7));
        Edge.due(7 + 7 + 3000, Edge.open("wc2", 9).then(b -> b.setPrice(1, 7)), b -> b.performance(0, 7));
    }

    private static void distance() {
        Edge.sentence("Description", "The distance of a place is the amount by which 2 times its column differs from "
                + "the number of columns minus 1, plus 4 times the amount by which its row differs from the focus row");
        Edge.due(0, Edge.hall("1"), b -> b.place(0, 0, 2));
        Edge.due(1, Edge.hall("11"), b -> b.place(0, 0, 2));
        Edge.due(1, Edge.hall("11"), b -> b.place(0, 1, 2));
        Edge.due(11, Edge.hall("1".repeat(12)), b -> b.place(0, 0, 2));
        Edge.due(11, Edge.hall("1".repeat(12)), b -> b.place(0, 11, 2));
        Edge.due(4, Edge.hall("1/1"), b -> b.place(0, 0, 2));
        Edge.due(0, Edge.hall("1/1"), b -> b.place(1, 0, 2));
        Edge.due(11 + 28, Edge.hall(LARGEST).then(b -> b.setFocus(7)), b -> b.place(0, 11, 2));
        Edge.due(11 + 28, Edge.hall(LARGEST).then(b -> b.setFocus(0)), b -> b.place(7, 0, 2));
        Edge.due(1 + 12, Edge.hall(LARGEST), b -> b.place(7, 5, 2));
        Edge.due(1 + 16, Edge.hall(LARGEST), b -> b.place(0, 6, 2));
        Edge.sentence("Description", "so places in the middle of the focus row have the least distance");
        int[] odd = {4, 2, 0, 2, 4};
        int[] even = {3, 1, 1, 3};
        for (int column = 0; column < 5; column++) {
            int c = column;
            Edge.due(odd[c], Edge.hall("1.w2c"), b -> b.place(0, c, 2));
        }
        for (int column = 0; column < 4; column++) {
            int c = column;
            Edge.due(even[c], Edge.hall("1111/1111"), b -> b.place(1, c, 2));
            Edge.due(even[c] + 4, Edge.hall("1111/1111"), b -> b.place(0, c, 2));
        }
    }

    private static void inputBuffer() {
        Edge.sentence("Description", "The input buffer holds up to 103 characters with codes from 32 to 126.");
        Edge.due(1, Edge.NEW, b -> b.append(' '));
        Edge.due(103, Edge.type("~".repeat(102)), b -> b.append('~'));
        Edge.refused(2, Edge.type("~".repeat(103)), b -> b.append('~'));
        Edge.refused(2, Edge.type("~".repeat(103)), b -> b.append(' '));
        for (int code = 32; code <= 126; code++) {
            char c = (char) code;
            Edge.due(2, Edge.type("1"), b -> b.append(c));
        }
        Edge.argument(Edge.type("1"), b -> b.append((char) 31));
        Edge.argument(Edge.type("1"), b -> b.append((char) 127));
    }

    private static void signsOfMap() {
        Edge.sentence("Description", "A map is written row by row, from row 0, with \"/\" between one row and the next; "
                + "a place is written as \".\" for no seat, a digit from 1 to 4 for a seat of this category, \"w\" for "
                + "an accessible place, or \"c\" for a companion seat.");
        String signs = ".1234wc/";
        for (int code = 32; code <= 126; code++) {
            String sign = String.valueOf((char) code);
            if (signs.contains(sign)) continue;
            Edge.malformed(0, Edge.NEW, sign);
            Edge.malformed(1, Edge.NEW, "1" + sign);
            Edge.malformed(3, Edge.NEW, "1/1" + sign);
        }
        Edge.due(0, Edge.type("."), Box::load);
        for (int i = 1; i < 7; i++) {
            Edge.due(1, Edge.type(signs.substring(i, i + 1)), Box::load);
        }
        Edge.malformed(0, Edge.NEW, "0");
        Edge.malformed(0, Edge.NEW, "5");
        Edge.malformed(0, Edge.NEW, "W");
        Edge.malformed(0, Edge.NEW, "C");
        Edge.malformed(0, Edge.NEW, "/1");
        Edge.malformed(4, Edge.NEW, "1/1/");
        Edge.malformed(2, Edge.NEW, "1//1");
    }

    private static void rowsOfMap() {
        Edge.sentence("Description", "All rows have the same number of places as the first one, so that a \"/\" before "
                + "a later row has as many is an error, and so is a place after that.");
        Edge.malformed(4, Edge.NEW, "11/1/11");
        Edge.malformed(3, Edge.NEW, "11//11");
        Edge.malformed(5, Edge.NEW, "11/111");
        Edge.malformed(3, Edge.NEW, "1/11");
        Edge.malformed(4, Edge.NEW, "11/1");
        Edge.malformed(7, Edge.NEW, "11/11/1");
        Edge.malformed(7, Edge.NEW, "11/11/1/");
        Edge.malformed(8, Edge.NEW, "11/11/11.");
        Edge.malformed(6, Edge.NEW, "11/11//11");
        Edge.due(6, Edge.type("11/11/11"), Box::load);
    }

    private static void largeMaps() {
        Edge.sentence("Description", "The numbers of rows and of places in the first row do not matter here.");
        Edge.tooLarge(Edge.NEW, Edge.rows(9, "1"));
        Edge.tooLarge(Edge.NEW, Edge.rows(52, "1"));
        Edge.tooLarge(Edge.NEW, "1".repeat(13));
        Edge.tooLarge(Edge.NEW, "1".repeat(103));
        Edge.tooLarge(Edge.NEW, Edge.rows(9, "1".repeat(10)));
        Edge.tooLarge(Edge.NEW, Edge.rows(2, ".".repeat(51)));
        Edge.malformed(18, Edge.NEW, Edge.rows(9, "1") + "/x");
        Edge.malformed(18, Edge.NEW, Edge.rows(9, "1") + "/");
        Edge.malformed(13, Edge.NEW, "1".repeat(13) + "x");
        Edge.malformed(15, Edge.NEW, "1".repeat(13) + "/1");
        Edge.malformed(27, Edge.NEW, "1".repeat(13) + "/" + "1".repeat(14));
        Edge.malformed(103, Edge.NEW, "1".repeat(102) + "/");
        Edge.malformed(102, Edge.NEW, "1".repeat(102) + "0");
    }

    private static void errorPosition() {
        Edge.sentence("Description", "The error position of a text that is malformed is the lowest index of a "
                + "character with which, after the characters before it, no map can go on, or the length of the text "
                + "if there is no such index.");
        Edge.malformed(0, Edge.NEW, "xx");
        Edge.malformed(1, Edge.NEW, "1x/x");
        Edge.malformed(3, Edge.NEW, "11//1/x");
        Edge.malformed(5, Edge.NEW, "11/11x");
        Edge.malformed(5, Edge.NEW, "11/111/1x");
        Edge.malformed(0, Edge.NEW, "");
        Edge.malformed(2, Edge.NEW, "./");
        Edge.malformed(3, Edge.NEW, "11/");
        Edge.malformed(4, Edge.NEW, "11/.");
        Edge.malformed(102, Edge.NEW, Edge.rows(7, "1".repeat(12)) + "/" + "1".repeat(11));
        Edge.malformed(102, Edge.NEW, Edge.rows(7, "1".repeat(12)) + "/" + "1".repeat(11) + "/");
        Edge.malformed(102, Edge.NEW, Edge.rows(7, "1".repeat(12)) + "/" + "1".repeat(11) + "5");
    }

    private static void numberOfPerformances() {
        Edge.sentence("Description", "There are at most 6 performances, numbered from 0.");
        for (int n = 0; n < 6; n++) {
            int m = n;
            Edge.due(m, Edge.times(m, Edge.at(9)), b -> b.addPerformance(9, 100));
        }
        Edge.refused(2, Edge.times(6, Edge.at(9)), b -> b.addPerformance(9, 100));
        Edge.due(6, Edge.times(6, Edge.at(9)), b -> b.count(1));
        Edge.sentence("Description", "A performance has a start, a time, and a factor in percent.");
        Edge.due(9, Edge.at(9), b -> b.performance(0, 0));
        Edge.due(100, Edge.at(9), b -> b.performance(0, 1));
    }

    private static void statesOfSeats() {
        Edge.sentence("Description", "In each performance, each place that is a seat is free, held, sold or blocked.");
        Edge.Steps steps = Edge.open("222.w", 100, 200).then(Edge.sold(0, 2, 1)).then(b -> b.hold(1, 2, 1, 0, 0, 9))
                .then(b -> b.block(1, 0, 4, true));
        int[] states = {0, 1, 2, 4, 3};
        for (int column = 0; column < 5; column++) {
            int c = column;
            Edge.asked(states[c], steps, b -> b.state(1, 0, c));
            Edge.asked(c == 3 ? 4 : 0, steps, b -> b.state(0, 0, c));
        }
        for (int what = 3; what <= 6; what++) {
            int w = what;
            Edge.asked(1, steps, b -> b.performance(1, w));
            Edge.asked(w == 3 ? 4 : 0, steps, b -> b.performance(0, w));
        }
        Edge.sentence("Description", "The time is a number of minutes, 0 at first.");
        Edge.due(0, Edge.NEW, b -> b.count(0));
        Edge.due(1, Edge.NEW.then(b -> b.advance(1)), b -> b.count(0));
        Edge.due(0, Edge.NEW.then(b -> b.advance(1)).then(Edge.hall("1")), b -> b.count(0));
    }

    private static void started() {
        Edge.sentence("Description", "A performance has started if its start is at most the time.");
        Edge.Steps steps = Edge.at(100, 100000).then(Edge.sold(0, 1, 1));
        Edge.Steps before = steps.then(b -> b.advance(99));
        Edge.Steps then = steps.then(b -> b.advance(100));
        Edge.Steps after = steps.then(b -> b.advance(101));
        Edge.due(1, before, b -> b.hold(0, 1, 1, 0, 0, 60));
        Edge.refused(3, then, b -> b.hold(0, 1, 1, 0, 0, 60));
        Edge.refused(3, after, b -> b.hold(0, 1, 1, 0, 0, 60));
        Edge.due(0, before, b -> b.exchange(0, 0, 0));
        Edge.refused(3, then, b -> b.exchange(0, 0, 0));
        Edge.refused(3, after, b -> b.exchange(0, 0, 1));
        Edge.due(1500, before, b -> b.refund(0, 0));
        Edge.refused(3, then, b -> b.refund(0, 0));
        Edge.Steps held = Edge.at(100).then(b -> b.advance(50)).then(b -> b.hold(0, 1, 1, 0, 0, 60));
        Edge.due(3000, held.then(b -> b.advance(49)), b -> b.confirm(0));
        Edge.refused(3, held.then(b -> b.advance(50)), b -> b.confirm(0));
        Edge.refused(3, held.then(b -> b.advance(51)), b -> b.confirm(0));
    }

    private static void prices() {
        Edge.sentence("Description", "Each category has a price from 0 to 100000 cents; these are 4000, 3000, 2000 and "
                + "1000 at first.");
        for (int category = 1; category <= 4; category++) {
            int c = category;
            Edge.due(5000 - 1000 * c, Edge.NEW, b -> b.setPrice(c, 0));
            Edge.due(0, Edge.NEW.then(b -> b.setPrice(c, 0)), b -> b.setPrice(c, 100000));
            Edge.due(100000, Edge.NEW.then(b -> b.setPrice(c, 100000)), b -> b.setPrice(c, 1));
            Edge.argument(Edge.NEW, b -> b.setPrice(c, -1));
            Edge.argument(Edge.NEW, b -> b.setPrice(c, 100001));
            Edge.due(5000 - 1000 * c, Edge.open("" + c, 9), b -> b.performance(0, 7));
        }
    }

    private static void priceOfSeat() {
        Edge.sentence("Description", "The price of a seat in a performance is that of its category times the factor, "
                + "divided by 100 and rounded down.");
        priced(99, 99, 101);
        priced(0, 1, 10);
        priced(0, 9, 11);
        priced(1, 10, 10);
        priced(0, 0, 300);
        priced(300000, 100000, 300);
        priced(10000, 100000, 10);
        priced(299, 100, 299);
        priced(3 * 3, Edge.hall("444"), 33, 10);
        priced(96 * 300000, Edge.hall(LARGEST.replace('1', '4')), 100000, 300);
    }

    private static void priced(int due, int price, int factor) {
        priced(due, Edge.hall("4"), price, factor);
    }

    private static void priced(int due, Edge.Steps hall, int price, int factor) {
        Edge.Steps steps = hall.then(b -> b.addPerformance(9, factor)).then(b -> b.setPrice(4, price));
        Edge.due(due, steps, b -> b.performance(0, 7));
    }

    // Promises 2 to 4

    private static void append() {
        Edge.sentence("Promise 2", "Returns the number of characters in the buffer.");
        for (int n = 0; n < 103; n++) {
            int m = n;
            Edge.due(m + 1, Edge.type("1".repeat(m)), b -> b.append('/'));
        }
        Edge.due(1, Edge.hall("1"), b -> b.append('/'));
        Edge.sentence("Promise 2", "Throws `IllegalArgumentException` if the code is not from 32 to 126");
        for (int code : new int[] {0, 1, 9, 10, 31, 127, 128, 255, 256, 32767, 32768, 65535, 65536 - 32}) {
            Edge.argument(Edge.NEW, b -> b.append((char) code));
            Edge.argument(Edge.type("11").then(Edge.at(9)), b -> b.append((char) code));
        }
        Edge.due(1, Edge.NEW, b -> b.append((char) 32));
        Edge.due(1, Edge.NEW, b -> b.append((char) 126));
        Edge.sentence("Promise 2", "Throws `IllegalStateException` if the buffer has 103 characters (2)");
        Edge.refused(2, Edge.type(LARGEST), b -> b.append('1'));
        Edge.due(96, Edge.type(LARGEST).then(b -> Edge.outcome(b, c -> c.append('/'))), Box::load);
        Edge.argument(Edge.type(LARGEST), b -> b.append((char) 127));
        Edge.due(103, Edge.type(LARGEST.substring(1)), b -> b.append('1'));
        Edge.due(1, Edge.hall(LARGEST), b -> b.append('1'));
    }

    private static Edge.Steps busy() {
        return Edge.at(100, 400).then(b -> b.setPrice(1, 5)).then(b -> b.setFocus(2)).then(b -> b.setRule(false))
                .then(Edge.sold(0, 3, 2)).then(b -> b.hold(1, 2, 1, 0, 0, 60)).then(b -> b.advance(7))
                .then(b -> b.block(0, 0, 0, true)).then(b -> b.refund(0, 1));
    }

    private static void load() {
        Edge.sentence("Promise 3", "Starts anew with the map in the input buffer: there are no performances, holds, "
                + "orders, payments and commands, the time is 0, the prices are as at first, the focus row is half of "
                + "the number of rows, rounded down, and the orphan rule applies.");
        Edge.alike(Edge.hall("12/wc"), busy().then(Edge.hall("12/wc")));
        Edge.alike(Edge.NEW, Edge.hall("222222/222222/222222"));
        Edge.alike(Edge.NEW, busy().then(Edge.hall("222222/222222/222222")));
        Edge.alike(Edge.at(9), busy().then(Edge.hall("222222/222222/222222")).then(Edge.at(9)));
        int[] focus = {0, 1, 1, 2, 2, 3, 3, 4};
        for (int rows = 1; rows <= 8; rows++) {
            int r = rows;
            Edge.due(focus[r - 1], busy().then(Edge.hall(Edge.rows(r, "1"))), b -> b.setFocus(0));
        }
        for (int what = 0; what <= 7; what++) {
            int w = what;
            Edge.due(w == 6 ? 1 : 0, busy().then(Edge.hall("1")), b -> b.count(w));
        }
        Edge.due(0, busy().then(Edge.hall("1")), b -> b.ledger(-1, 0));
        Edge.due(0, busy().then(Edge.hall("1")), b -> b.account(0));
        Edge.due(0, busy().then(Edge.open("1", 9)), b -> b.hold(0, 1, 1, 0, 0, 1));
        Edge.refused(7, busy().then(Edge.hall("1")), Box::undo);
        Edge.range(busy().then(Edge.hall("1")), b -> b.performance(0, 0));
        Edge.missing(busy().then(Edge.hall("1")), b -> b.heldBy(1, 0));
        Edge.missing(busy().then(Edge.hall("1")), b -> b.ticket(0, 0, 0));
        Edge.due(true, busy().then(Edge.hall("1")), b -> b.setRule(true));
        Edge.due(4000, busy().then(Edge.hall("1")), b -> b.setPrice(1, 1));
        Edge.asked(true, busy().then(Edge.hall("1")), Box::isReplayed);
        Edge.Steps kept = Edge.at(500).then(Edge.sold(0, 1, 1)).then(b -> b.advance(400)).then(b -> b.refund(0, 0));
        Edge.asked(1500, kept, b -> b.performance(0, 2));
        Edge.asked(0, kept.then(Edge.open("1", 9)), b -> b.performance(0, 2));
        Edge.alike(Edge.open("1", 9), kept.then(Edge.open("1", 9)));
    }

    private static void loadLeaves() {
        Edge.sentence("Promise 3", "The reason and the snapshot stay.");
        Edge.Steps refused = Edge.NEW.then(b -> Edge.outcome(b, Box::undo)).then(Edge.hall("1"));
        Edge.due(7, refused, Box::reason);
        Edge.Steps taken = busy().then(Box::snapshot);
        Edge.due(7, taken.then(Edge.hall("1")), Box::restore);
        Edge.alike(taken.then(Box::restore), taken.then(Edge.hall("1")).then(Box::restore));
        Edge.refused(7, Edge.hall("1"), Box::restore);
        Edge.sentence("Promise 3", "The buffer is empty afterwards in any case.");
        Edge.due(1, Edge.hall("1"), b -> b.append('1'));
        Edge.malformed(1, Edge.NEW, "1x");
        Edge.malformed(0, Edge.hall("1"), "");
        Edge.tooLarge(Edge.NEW, "1".repeat(13));
        Edge.due(2, Edge.hall("1").then(Edge.type("..22")), Box::load);
        Edge.sentence("Promise 3", "Returns the number of seats, accessible places and companion seats included.");
        Edge.due(0, Edge.type("..."), Box::load);
        Edge.due(6, Edge.type(".1234wc"), Box::load);
        Edge.due(95, Edge.type("." + LARGEST.substring(1)), Box::load);
        Edge.due(96, Edge.type(LARGEST), Box::load);
    }

    private static void loadThrows() {
        Edge.sentence("Promise 3", "Throws `IllegalArgumentException` if the text is malformed; the error position is "
                + "then kept for errorPosition");
        Edge.Steps taken = busy().then(Box::snapshot).then(b -> b.advance(1));
        Edge.malformed(0, taken, "");
        Edge.malformed(1, taken, "1x");
        Edge.malformed(2, taken, "1/");
        Edge.malformed(103, taken, "1".repeat(102) + "/");
        Edge.sentence("Promise 3", "Throws `UnsupportedOperationException` if there are more than 8 rows or more than "
                + "12 places in a row");
        Edge.tooLarge(taken, Edge.rows(9, "1"));
        Edge.tooLarge(taken, Edge.rows(9, "1".repeat(10)));
        Edge.tooLarge(taken, "1".repeat(13));
        Edge.tooLarge(taken, Edge.rows(7, "1".repeat(13)));
        Edge.tooLarge(taken, ".".repeat(13));
        Edge.malformed(18, taken, Edge.rows(9, "1") + "/");
        Edge.due(8, taken.then(Edge.type(Edge.rows(8, "1"))), Box::load);
        Edge.due(12, taken.then(Edge.type("1".repeat(12))), Box::load);
    }

    /** A load that may throw, as a step. */
    private static Edge.Steps loadTried(String text) {
        return Edge.type(text).then(b -> Edge.outcome(b, Box::load));
    }

    private static void errorPositionKept() {
        Edge.sentence("Promise 4", "Returns the error position of the last text that was malformed, whatever was read "
                + "after it.");
        Edge.Steps first = Edge.at(9).then(loadTried("11/x"));
        Edge.asked(3, first, Box::errorPosition);
        Edge.asked(3, first.then(Edge.hall("1")), Box::errorPosition);
        Edge.asked(3, first.then(loadTried("1".repeat(13))), Box::errorPosition);
        Edge.asked(0, first.then(loadTried("")), Box::errorPosition);
        Edge.asked(3, first.then(Edge.type("x")), Box::errorPosition);
        Edge.asked(5, first.then(loadTried("11/11x")).then(Edge.hall("1")), Box::errorPosition);
        Edge.asked(3, first.then(Box::undo), Box::errorPosition);
        Edge.asked(0, Edge.NEW.then(Box::snapshot).then(loadTried("")).then(Box::restore), Box::errorPosition);
        Edge.sentence("Promise 4", "Returns the error position.");
        Edge.asked(0, loadTried(""), Box::errorPosition);
        Edge.asked(103, loadTried("1".repeat(102) + "/"), Box::errorPosition);
        Edge.sentence("Promise 4", "Throws `NoSuchElementException` if there was none");
        Edge.missing(Edge.NEW, Box::errorPosition);
        Edge.missing(Edge.type("x"), Box::errorPosition);
        Edge.missing(Edge.hall("1"), Box::errorPosition);
        Edge.missing(loadTried("1".repeat(13)), Box::errorPosition);
        Edge.missing(loadTried(Edge.rows(9, "1")), Box::errorPosition);
    }

    // Promises 5 to 9

    private static void place() {
        Edge.sentence("Promise 5", "- `what`: 0 for its category, 0 if it is no seat; 1 for 1 if it is an accessible "
                + "place, 2 if it is a companion seat, otherwise 0; 2 for its distance");
        int[][] due = {{0, 0, 8}, {1, 0, 6}, {4, 0, 4}, {1, 1, 6}, {1, 2, 8}};
        for (int column = 0; column < 5; column++) {
            int c = column;
            for (int what = 0; what <= 2; what++) {
                int w = what;
                Edge.asked(due[c][w], Edge.hall(".14wc/....."), b -> b.place(0, c, w));
            }
        }
        Edge.sentence("Promise 5", "Throws `IndexOutOfBoundsException` if there is no such place");
        int[][] nowhere = {{-1, 0}, {3, 0}, {0, -1}, {0, 6}, {3, 6}, {-1, -1}, {MIN, 0}, {MAX, 0}, {0, MIN}, {0, MAX},
            {0, 12}, {8, 0}, {1, 7}};
        for (int[] at : nowhere) {
            Edge.range(Edge.NEW, b -> b.place(at[0], at[1], 0));
            Edge.range(Edge.NEW, b -> b.place(at[0], at[1], 2));
            Edge.range(Edge.NEW, b -> b.place(at[0], at[1], 3));
        }
        Edge.range(Edge.hall(LARGEST).then(Edge.hall("1")), b -> b.place(1, 0, 0));
        Edge.range(Edge.hall(LARGEST).then(Edge.hall("1")), b -> b.place(0, 1, 0));
        Edge.sentence("Promise 5", "Throws `IllegalArgumentException` if what is out of range");
        for (int what : new int[] {-1, 3, 4, MIN, MAX}) {
            Edge.argument(Edge.NEW, b -> b.place(0, 0, what));
            Edge.argument(Edge.hall("."), b -> b.place(0, 0, what));
        }
    }

    private static void addPerformance() {
        Edge.sentence("Promise 6", "Adds a performance; all its seats are free.");
        Edge.asked(5, Edge.open("1w.c/.23.", 9), b -> b.performance(0, 3));
        Edge.asked(0, Edge.open("1w.c/.23.", 9), b -> b.state(0, 0, 1));
        Edge.asked(4, Edge.open("1w.c/.23.", 9), b -> b.state(0, 1, 3));
        Edge.asked(18, busy().then(Edge.at(9)), b -> b.performance(2, 3));
        Edge.asked(0, Edge.open("..", 9), b -> b.performance(0, 3));
        Edge.Steps reopened = Edge.at(9).then(b -> b.block(0, 0, 0, true)).then(Box::undo).then(Box::undo);
        Edge.asked(18, reopened.then(Edge.at(9)), b -> b.performance(0, 3));
        Edge.sentence("Promise 6", "- `start`: the start, later than the time, up to 100000");
        starts(Edge.NEW, 0);
        starts(Edge.NEW.then(b -> b.advance(50)), 50);
        starts(Edge.until(99999), 99999);
        Edge.argument(Edge.until(100000), b -> b.addPerformance(100000, 100));
        Edge.argument(Edge.until(100000), b -> b.addPerformance(100001, 100));
        Edge.sentence("Promise 6", "- `factor`: the factor, 10 to 300");
        for (int factor : new int[] {9, 301, 0, -1, -10, MIN, MAX}) {
            Edge.argument(Edge.NEW, b -> b.addPerformance(9, factor));
        }
        Edge.due(0, Edge.NEW, b -> b.addPerformance(9, 10));
        Edge.due(0, Edge.NEW, b -> b.addPerformance(9, 300));
        Edge.due(300, Edge.NEW.then(b -> b.addPerformance(9, 300)), b -> b.performance(0, 1));
        Edge.sentence("Promise 6", "Returns the number of the performance.");
        Edge.due(0, Edge.at(9).then(Box::undo), b -> b.addPerformance(9, 10));
        Edge.due(0, Edge.at(9).then(Edge.hall("1")), b -> b.addPerformance(9, 10));
        Edge.due(5, Edge.times(5, Edge.at(9)), b -> b.addPerformance(9, 10));
        Edge.sentence("Promise 6", "Throws `IllegalArgumentException` if a number is out of range");
        Edge.argument(Edge.times(6, Edge.at(9)), b -> b.addPerformance(0, 100));
        Edge.argument(Edge.times(6, Edge.at(9)), b -> b.addPerformance(9, 301));
        Edge.argument(Edge.NEW, b -> b.addPerformance(0, 9));
        Edge.sentence("Promise 6", "Throws `IllegalStateException` if there are 6 performances (2)");
        Edge.refused(2, Edge.times(6, Edge.at(9)), b -> b.addPerformance(1, 10));
        Edge.refused(2, Edge.times(6, Edge.at(9)).then(b -> b.advance(9)), b -> b.addPerformance(10, 10));
        Edge.due(5, Edge.times(6, Edge.at(9)).then(Box::undo), b -> b.addPerformance(1, 10));
    }

    private static void starts(Edge.Steps steps, int time) {
        Edge.argument(steps, b -> b.addPerformance(time, 100));
        Edge.argument(steps, b -> b.addPerformance(time - 1, 100));
        Edge.due(0, steps, b -> b.addPerformance(time + 1, 100));
        Edge.due(0, steps, b -> b.addPerformance(100000, 100));
        for (int start : new int[] {100001, MIN, MAX, -1}) {
            Edge.argument(steps, b -> b.addPerformance(start, 100));
        }
    }

    private static void setPrice() {
        Edge.sentence("Promise 7", "- `category`: the category, 1 to 4");
        Edge.due(4000, Edge.NEW, b -> b.setPrice(1, 4));
        Edge.due(1000, Edge.NEW, b -> b.setPrice(4, 4));
        Edge.sentence("Promise 7", "- `price`: the price, 0 to 100000");
        Edge.due(4000, Edge.NEW, b -> b.setPrice(1, 0));
        Edge.due(4000, Edge.NEW, b -> b.setPrice(1, 100000));
        Edge.asked(0, Edge.open("1", 9).then(b -> b.setPrice(1, 0)), b -> b.performance(0, 7));
        Edge.asked(100000, Edge.open("1", 9).then(b -> b.setPrice(1, 100000)), b -> b.performance(0, 7));
        Edge.sentence("Promise 7", "Returns the previous price.");
        Edge.due(7, Edge.NEW.then(b -> b.setPrice(2, 7)), b -> b.setPrice(2, 7));
        Edge.due(0, Edge.NEW.then(b -> b.setPrice(2, 0)), b -> b.setPrice(2, 7));
        Edge.due(3000, Edge.NEW.then(b -> b.setPrice(2, 0)).then(Box::undo), b -> b.setPrice(2, 7));
        Edge.due(3000, Edge.NEW.then(b -> b.setPrice(1, 5)).then(b -> b.setPrice(3, 5)), b -> b.setPrice(2, 7));
        Edge.sentence("Promise 7", "Throws `IndexOutOfBoundsException` if there is no such category");
        for (int category : new int[] {0, 5, -1, MIN, MAX}) {
            Edge.range(Edge.NEW, b -> b.setPrice(category, 1));
            Edge.range(Edge.NEW, b -> b.setPrice(category, -1));
        }
        Edge.sentence("Promise 7", "Throws `IllegalArgumentException` if the price is out of range");
        for (int price : new int[] {-1, 100001, MIN, MAX}) {
            Edge.argument(Edge.NEW, b -> b.setPrice(1, price));
            Edge.argument(Edge.NEW, b -> b.setPrice(4, price));
        }
    }

    private static void setFocus() {
        Edge.sentence("Promise 8", "Returns the previous focus row.");
        Edge.due(1, Edge.NEW, b -> b.setFocus(0));
        Edge.due(1, Edge.NEW, b -> b.setFocus(2));
        Edge.due(2, Edge.NEW.then(b -> b.setFocus(2)), b -> b.setFocus(2));
        Edge.due(0, Edge.hall("1"), b -> b.setFocus(0));
        Edge.due(7, Edge.hall(LARGEST).then(b -> b.setFocus(7)), b -> b.setFocus(0));
        Edge.due(0, Edge.NEW.then(b -> b.setFocus(2)).then(Edge.hall("1")), b -> b.setFocus(0));
        Edge.sentence("Promise 8", "Throws `IndexOutOfBoundsException` if there is no such row");
        for (int row : new int[] {-1, 3, 7, 8, MIN, MAX}) {
            Edge.range(Edge.NEW, b -> b.setFocus(row));
        }
        Edge.range(Edge.hall("1"), b -> b.setFocus(1));
        Edge.range(Edge.hall(LARGEST), b -> b.setFocus(8));
    }

    private static void setRule() {
        Edge.sentence("Promise 9", "Sets whether the orphan rule applies.");
        Edge.Steps steps = Edge.open("22222/222..", 9);
        Edge.asked(0, steps.then(b -> b.setFocus(0)), b -> b.best(1, 3, 0, 0, 1));
        Edge.asked(1, steps.then(b -> b.setFocus(0)).then(b -> b.setRule(false)), b -> b.best(1, 3, 0, 0, 1));
        Edge.asked(0, steps.then(b -> b.setFocus(0)).then(b -> b.setRule(true)), b -> b.best(1, 3, 0, 0, 1));
        Edge.sentence("Promise 9", "- `on`: whether it applies from now on");
        Edge.due(false, Edge.NEW.then(b -> b.setRule(false)), b -> b.setRule(false));
        Edge.due(true, Edge.NEW.then(b -> b.setRule(false)).then(b -> b.setRule(true)), b -> b.setRule(true));
        Edge.sentence("Promise 9", "Returns whether it applied before.");
        Edge.due(true, Edge.NEW, b -> b.setRule(true));
        Edge.due(true, Edge.NEW, b -> b.setRule(false));
        Edge.due(1, Edge.NEW.then(b -> b.setRule(true)), b -> b.count(7));
        Edge.due(true, Edge.NEW.then(b -> b.setRule(false)).then(Box::undo), b -> b.setRule(true));
    }

    // Promises 10 to 13

    private static void block() {
        Edge.sentence("Promise 10", "Blocks a seat in a performance, or makes a blocked one free; this is a command "
                + "also if the seat is so already.");
        Edge.Steps two = Edge.open("1.w/c23", 100, 200);
        Edge.asked(3, two.then(b -> b.block(0, 0, 0, true)), b -> b.state(0, 0, 0));
        Edge.asked(0, two.then(b -> b.block(0, 0, 0, true)), b -> b.state(1, 0, 0));
        Edge.asked(0, two.then(b -> b.block(0, 0, 0, true)).then(b -> b.block(0, 0, 0, false)), b -> b.state(0, 0, 0));
        Edge.asked(3, two.then(b -> b.block(1, 0, 2, true)), b -> b.state(1, 0, 2));
        Edge.asked(3, two.then(b -> b.block(1, 1, 2, true)), b -> b.state(1, 1, 2));
        Edge.asked(3, two.then(b -> b.block(0, 0, 0, false)), b -> b.count(7));
        Edge.asked(4, two.then(b -> b.block(0, 0, 0, true)).then(b -> b.block(0, 0, 0, true)), b -> b.count(7));
        Edge.due(2, two.then(b -> b.block(0, 0, 0, false)), Box::undo);
        Edge.due(false, two.then(b -> b.advance(150)), b -> b.block(0, 0, 0, true));
        Edge.sentence("Promise 10", "Returns whether it was blocked before.");
        Edge.due(false, two, b -> b.block(0, 0, 0, true));
        Edge.due(false, two, b -> b.block(0, 0, 0, false));
        Edge.due(true, two.then(b -> b.block(0, 0, 0, true)), b -> b.block(0, 0, 0, true));
        Edge.due(true, two.then(b -> b.block(0, 0, 0, true)), b -> b.block(0, 0, 0, false));
        Edge.due(false, two.then(b -> b.block(0, 0, 0, true)), b -> b.block(1, 0, 0, true));
    }

    private static final int[][] NOWHERE = {{-1, 0, 0}, {2, 0, 0}, {0, -1, 0}, {0, 3, 0}, {0, 0, -1}, {0, 0, 6},
        {MIN, 0, 0}, {MAX, 0, 0}, {0, MIN, 0}, {0, MAX, 0}, {0, 0, MIN}, {0, 0, MAX}, {5, 0, 0}, {6, 0, 0},
        {0, 7, 0}, {0, 0, 11}, {1, -1, 96}, {0, 1, -6}};

    private static void blockThrows() {
        Edge.sentence("Promise 10", "Throws `IndexOutOfBoundsException` if there is no such performance or place");
        Edge.Steps two = Edge.at(100, 200).then(Edge.sold(0, 1, 1));
        for (int[] at : NOWHERE) {
            Edge.range(two, b -> b.block(at[0], at[1], at[2], true));
            Edge.range(two, b -> b.block(at[0], at[1], at[2], false));
        }
        Edge.range(Edge.NEW, b -> b.block(0, 0, 0, true));
        Edge.sentence("Promise 10", "Throws `IllegalArgumentException` if the place is no seat");
        Edge.argument(Edge.open(".1", 9), b -> b.block(0, 0, 0, true));
        Edge.argument(Edge.open(".1", 9), b -> b.block(0, 0, 0, false));
        Edge.range(Edge.open(".1", 9), b -> b.block(1, 0, 0, true));
        Edge.range(Edge.open(".1", 9), b -> b.block(0, 1, 0, true));
        Edge.sentence("Promise 10", "Throws `IllegalStateException` if the seat is held or sold (4)");
        Edge.Steps taken = Edge.open("22", 100, 200).then(Edge.sold(0, 1, 1)).then(b -> b.hold(0, 1, 1, 0, 0, 9));
        for (int column = 0; column < 2; column++) {
            int c = column;
            Edge.refused(4, taken, b -> b.block(0, 0, c, true));
            Edge.refused(4, taken, b -> b.block(0, 0, c, false));
            Edge.due(false, taken, b -> b.block(1, 0, c, true));
        }
        Edge.due(false, taken.then(b -> b.release(1)).then(b -> b.refund(0, 0)), b -> b.block(0, 0, 0, true));
        Edge.due(false, taken.then(b -> b.advance(9)), b -> b.block(0, 0, 1, true));
        Edge.refused(4, taken.then(b -> b.advance(300)), b -> b.block(0, 0, 0, true));
    }

    private static void state() {
        Edge.sentence("Promise 11", "Returns 0 free, 1 held, 2 sold, 3 blocked, 4 no seat.");
        Edge.Steps steps = Edge.open("2.22/2w..", 100, 200).then(Edge.sold(0, 1, 2)).then(b -> b.hold(0, 1, 1, 0, 0, 9))
                .then(b -> b.block(0, 1, 1, true));
        int[][] states = {{1, 4, 2, 2}, {0, 3, 4, 4}};
        for (int row = 0; row < 2; row++) {
            for (int column = 0; column < 4; column++) {
                int r = row;
                int c = column;
                Edge.asked(states[r][c], steps, b -> b.state(0, r, c));
                Edge.asked(states[r][c] == 4 ? 4 : 0, steps, b -> b.state(1, r, c));
            }
        }
        Edge.asked(0, steps.then(b -> b.advance(9)), b -> b.state(0, 0, 0));
        Edge.asked(2, steps.then(b -> b.advance(300)), b -> b.state(0, 0, 2));
        Edge.sentence("Promise 11", "Throws `IndexOutOfBoundsException` if there is no such performance or place");
        for (int[] at : NOWHERE) {
            Edge.range(Edge.at(100, 200), b -> b.state(at[0], at[1], at[2]));
        }
        Edge.range(Edge.NEW, b -> b.state(0, 0, 0));
        Edge.range(Edge.at(9).then(Box::undo), b -> b.state(0, 0, 0));
        Edge.range(Edge.at(9).then(Edge.hall("1")), b -> b.state(0, 0, 0));
    }

    private static void holder() {
        Edge.sentence("Promise 12", "Returns the number of the hold or the order.");
        Edge.Steps steps = Edge.open("2222", 100, 200).then(Edge.sold(0, 1, 2)).then(b -> b.hold(0, 1, 2, 0, 0, 9))
                .then(b -> b.hold(7, 2, 4, 0, 0, 9));
        int[] first = {0, 0, 1, 1};
        for (int column = 0; column < 4; column++) {
            int c = column;
            Edge.asked(first[c], steps, b -> b.holder(0, 0, c));
            Edge.asked(2, steps, b -> b.holder(1, 0, c));
            Edge.asked(2, steps.then(b -> b.confirm(2)), b -> b.holder(1, 0, c));
        }
        Edge.asked(0, steps.then(b -> b.release(1)).then(b -> b.exchange(0, 0, 0)), b -> b.holder(0, 0, 3));
        Edge.sentence("Promise 12", "Throws `IndexOutOfBoundsException` if there is no such performance or place");
        for (int[] at : NOWHERE) {
            Edge.range(Edge.at(100, 200), b -> b.holder(at[0], at[1], at[2]));
        }
        Edge.range(Edge.NEW, b -> b.holder(0, 0, 0));
        Edge.sentence("Promise 12", "Throws `NoSuchElementException` if it is neither held nor sold");
        Edge.missing(Edge.at(9), b -> b.holder(0, 0, 0));
        Edge.missing(Edge.at(9).then(b -> b.block(0, 0, 0, true)), b -> b.holder(0, 0, 0));
        Edge.missing(Edge.open(".", 9), b -> b.holder(0, 0, 0));
        Edge.missing(steps.then(b -> b.release(1)), b -> b.holder(0, 0, 2));
        Edge.missing(steps.then(b -> b.advance(9)), b -> b.holder(0, 0, 2));
        Edge.missing(steps.then(b -> b.refund(0, 0)), b -> b.holder(0, 0, 0));
        Edge.missing(steps.then(b -> b.release(1)).then(b -> b.exchange(0, 0, 0)), b -> b.holder(0, 0, 0));
        Edge.missing(steps.then(Box::undo), b -> b.holder(1, 0, 0));
    }

    private static void advance() {
        Edge.sentence("Promise 13", "Lets time pass; holds expire.");
        Edge.Steps three = Edge.at(500, 900).then(b -> b.hold(0, 3, 1, 0, 0, 10)).then(b -> b.hold(1, 1, 1, 0, 0, 11))
                .then(b -> b.hold(2, 1, 1, 0, 0, 10));
        Edge.asked(9, three.then(b -> b.advance(9)), b -> b.count(0));
        Edge.asked(3, three.then(b -> b.advance(9)), b -> b.count(2));
        Edge.asked(1, three.then(b -> b.advance(10)), b -> b.count(2));
        Edge.asked(0, three.then(b -> b.advance(11)), b -> b.count(2));
        Edge.asked(18, three.then(b -> b.advance(11)), b -> b.performance(0, 3));
        Edge.sentence("Promise 13", "- `minutes`: the number of minutes, 1 to 10000");
        Edge.due(0, Edge.NEW, b -> b.advance(1));
        Edge.due(0, Edge.NEW, b -> b.advance(10000));
        Edge.due(10000, Edge.NEW.then(b -> b.advance(10000)), b -> b.count(0));
        Edge.sentence("Promise 13", "Returns the number of holds that expire.");
        Edge.due(0, three, b -> b.advance(9));
        Edge.due(2, three, b -> b.advance(10));
        Edge.due(3, three, b -> b.advance(11));
        Edge.due(1, three.then(b -> b.advance(10)), b -> b.advance(1));
        Edge.due(0, three.then(b -> b.advance(11)), b -> b.advance(1));
        Edge.due(2, three.then(b -> b.confirm(0)), b -> b.advance(60));
        Edge.due(12, Edge.at(90).then(Edge.times(12, b -> b.hold(0, 1, 1, 0, 0, 60))), b -> b.advance(60));
        Edge.due(0, Edge.at(90).then(Edge.times(12, b -> b.hold(0, 1, 1, 0, 0, 60))), b -> b.advance(59));
        Edge.sentence("Promise 13", "Throws `IllegalArgumentException` if the number is out of range");
        for (int minutes : new int[] {0, -1, 10001, MIN, MAX}) {
            Edge.argument(Edge.NEW, b -> b.advance(minutes));
            Edge.argument(three, b -> b.advance(minutes));
            Edge.argument(Edge.until(100000), b -> b.advance(minutes));
        }
    }

    private static void advanceThrows() {
        Edge.sentence("Promise 13", "Throws `IllegalStateException` if the time would be greater than 100000 (2)");
        Edge.due(0, Edge.until(90000), b -> b.advance(10000));
        Edge.refused(2, Edge.until(90001), b -> b.advance(10000));
        Edge.due(0, Edge.until(90001), b -> b.advance(9999));
        Edge.due(100000, Edge.until(100000), b -> b.count(0));
        Edge.refused(2, Edge.until(100000), b -> b.advance(1));
        Edge.refused(2, Edge.until(100000), b -> b.advance(10000));
        Edge.argument(Edge.until(100000), b -> b.advance(10001));
        Edge.argument(Edge.until(100000), b -> b.advance(0));
        Edge.Steps last = Edge.at(100000).then(Edge.until(99990)).then(b -> b.hold(0, 1, 1, 0, 0, 10));
        Edge.due(1, last, b -> b.advance(10));
        Edge.refused(2, last, b -> b.advance(11));
    }
}
