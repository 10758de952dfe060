/** The edges of holds, orders, exchanges and refunds, and of the promises 16 to 22. */
final class OrderEdges {
    private static final int MIN = Integer.MIN_VALUE;
    private static final int MAX = Integer.MAX_VALUE;
    private static final String PLENTY = Edge.rows(2, "2".repeat(12));

    private OrderEdges() {
    }

    static void run() {
        numberOfHolds();
        numbersOfHolds();
        blockOfHold();
        expiry();
        ordersFromHolds();
        amounts();
        numberOfOrders();
        exchanged();
        exchangedAmount();
        refunded();
        refundedSeats();
        hold();
        holdNumbers();
        holdRefused();
        release();
        confirm();
        confirmRefused();
        heldBy();
        ticket();
        exchange();
        exchangeRefused();
        refund();
    }

    private static Edge.Steps holds(int n, int minutes) {
        return Edge.times(n, b -> b.hold(0, 1, 1, 0, 0, minutes));
    }

    // Description

    private static void numberOfHolds() {
        Edge.sentence("Description", "There are at most 12 holds at a time.");
        Edge.Steps open = Edge.open(PLENTY, 500, 600);
        Edge.due(11, open.then(holds(11, 60)), b -> b.hold(0, 1, 1, 0, 0, 60));
        Edge.refused(2, open.then(holds(12, 60)), b -> b.hold(0, 1, 1, 0, 0, 60));
        Edge.refused(2, open.then(holds(12, 60)), b -> b.hold(0, 2, 1, 0, 0, 60));
        Edge.due(12, open.then(holds(12, 60)).then(b -> b.release(5)), b -> b.hold(0, 1, 1, 0, 0, 60));
        Edge.due(12, open.then(holds(12, 60)).then(b -> b.confirm(11)), b -> b.hold(0, 1, 1, 0, 0, 60));
        Edge.due(12, open.then(holds(12, 60)).then(b -> b.advance(60)), b -> b.hold(0, 1, 1, 0, 0, 60));
        Edge.refused(2, open.then(holds(12, 60)).then(b -> b.advance(59)), b -> b.hold(0, 1, 1, 0, 0, 60));
        Edge.due(11, open.then(holds(12, 60)).then(Box::undo), b -> b.hold(0, 1, 1, 0, 0, 60));
        Edge.asked(12, open.then(holds(12, 60)), b -> b.count(2));
    }

    private static void numbersOfHolds() {
        Edge.sentence("Description", "They are numbered from 0 in the order in which they are made, and a number that "
                + "was given is not given again.");
        Edge.Steps open = Edge.open(PLENTY, 500);
        for (int n = 0; n <= 3; n++) {
            int m = n;
            Edge.due(m, open.then(holds(m, 9)), b -> b.hold(0, 1, 1, 0, 0, 9));
        }
        Edge.due(1, open.then(holds(1, 9)).then(b -> b.release(0)), b -> b.hold(0, 1, 1, 0, 0, 9));
        Edge.due(1, open.then(holds(1, 9)).then(b -> b.advance(9)), b -> b.hold(0, 1, 1, 0, 0, 9));
        Edge.due(1, open.then(Edge.sold(0, 1, 1)), b -> b.hold(0, 1, 1, 0, 0, 9));
        Edge.due(1, open.then(Edge.sold(0, 1, 1)).then(b -> b.refund(0, 0)), b -> b.hold(0, 1, 1, 0, 0, 9));
        Edge.due(2, open.then(holds(2, 9)).then(b -> b.release(0)), b -> b.hold(0, 1, 1, 0, 0, 9));
        Edge.due(1, open.then(holds(1, 9)).then(b -> Edge.outcome(b, c -> c.hold(0, 1, 1, 4, 0, 9))),
                b -> b.hold(0, 1, 1, 0, 0, 9));
        Edge.Steps many = open.then(b -> {
            for (int i = 0; i < 100; i++) {
                b.hold(0, 1, 1, 0, 0, 9);
                b.release(i);
            }
        });
        Edge.due(100, many, b -> b.hold(0, 1, 1, 0, 0, 9));
        Edge.due(100, many, b -> b.count(5));
    }

    private static void blockOfHold() {
        Edge.sentence("Description", "A hold is of a customer from 0 to 9, for a block, the same one in each "
                + "performance of a set, and has an expiry.");
        Edge.Steps three = Edge.open("2222", 500, 500, 500).then(b -> b.block(2, 0, 0, true));
        Edge.Steps held = three.then(b -> b.hold(9, 5, 3, 0, 0, 7));
        int[] due = {9, 5, 0, 1, 3, 7};
        for (int what = 0; what <= 5; what++) {
            int w = what;
            Edge.asked(due[w], held, b -> b.heldBy(0, w));
        }
        Edge.asked(0, three.then(b -> b.hold(0, 3, 3, 0, 0, 7)), b -> b.heldBy(0, 3));
        Edge.sentence("Description", "Its seats are held.");
        int[][] states = {{0, 1, 1, 1}, {0, 0, 0, 0}, {3, 1, 1, 1}};
        for (int p = 0; p < 3; p++) {
            for (int column = 0; column < 4; column++) {
                int q = p;
                int c = column;
                Edge.asked(states[q][c], held, b -> b.state(q, 0, c));
            }
        }
        Edge.asked(8, Edge.open("22222222", 9).then(b -> b.hold(0, 1, 8, 0, 0, 7)), b -> b.performance(0, 4));
        Edge.asked(48, Edge.open("22222222", 9, 9, 9, 9, 9, 9).then(b -> b.hold(0, 63, 8, 0, 0, 7)),
                b -> b.performance(0, 4) + b.performance(1, 4) + b.performance(2, 4) + b.performance(3, 4)
                        + b.performance(4, 4) + b.performance(5, 4));
    }

    private static void expiry() {
        Edge.sentence("Description", "When the time reaches its expiry, it expires, and its seats become free.");
        Edge.Steps held = Edge.at(500, 600).then(b -> b.advance(5)).then(b -> b.hold(3, 3, 2, 0, 0, 60));
        Edge.asked(65, held, b -> b.heldBy(0, 5));
        Edge.asked(3, held.then(b -> b.advance(59)), b -> b.heldBy(0, 0));
        Edge.asked(1, held.then(b -> b.advance(59)), b -> b.state(1, 1, 2));
        Edge.missing(held.then(b -> b.advance(60)), b -> b.heldBy(0, 0));
        Edge.asked(0, held.then(b -> b.advance(60)), b -> b.state(0, 1, 2));
        Edge.asked(0, held.then(b -> b.advance(60)), b -> b.state(1, 1, 2));
        Edge.missing(held.then(b -> b.advance(60)), b -> b.holder(1, 1, 2));
        Edge.missing(held.then(b -> b.advance(10000)), b -> b.heldBy(0, 0));
        Edge.Steps late = Edge.at(100000).then(Edge.until(99990)).then(b -> b.hold(3, 1, 2, 0, 0, 60));
        Edge.asked(100050, late, b -> b.heldBy(0, 5));
        Edge.due(0, late, b -> b.advance(10));
        Edge.asked(100050, late.then(b -> b.advance(10)), b -> b.heldBy(0, 5));
        Edge.due(50, late.then(b -> b.advance(10)), b -> b.release(0));
    }

    private static void ordersFromHolds() {
        Edge.sentence("Description", "An order comes from a hold that is confirmed, and has its number.");
        Edge.Steps two = Edge.at(500, 600).then(b -> b.hold(3, 1, 1, 0, 0, 9)).then(b -> b.hold(4, 2, 1, 0, 0, 9));
        Edge.asked(4, two.then(b -> b.confirm(1)), b -> b.ticket(1, 1, 0));
        Edge.missing(two.then(b -> b.confirm(1)), b -> b.ticket(0, 0, 0));
        Edge.missing(two.then(b -> b.confirm(1)), b -> b.ticket(0, 1, 0));
        Edge.missing(two.then(b -> b.confirm(1)), b -> b.heldBy(1, 0));
        Edge.asked(3, two.then(b -> b.confirm(1)), b -> b.heldBy(0, 0));
        Edge.sentence("Description", "It has a ticket for each performance of the hold, with a block and an amount.");
        Edge.Steps six = Edge.open("2222", 9, 9, 9, 9, 9, 9);
        Edge.asked(6, six.then(Edge.sold(0, 63, 4)), b -> b.count(4));
        Edge.asked(1, six.then(Edge.sold(0, 32, 4)), b -> b.count(4));
        Edge.asked(12000, six.then(Edge.sold(0, 32, 4)), b -> b.ticket(0, 5, 4));
        for (int p = 0; p < 6; p++) {
            int q = p;
            Edge.asked(4, six.then(Edge.sold(0, 63, 4)), b -> b.ticket(0, q, 3));
            Edge.asked(10800, six.then(Edge.sold(0, 63, 4)), b -> b.ticket(0, q, 4));
            if (q < 5) Edge.missing(six.then(Edge.sold(0, 32, 4)), b -> b.ticket(0, q, 0));
        }
    }

    private static void amount(int due, int price, int tickets) {
        Edge.Steps steps = Edge.open("2", 500, 500, 500, 500, 500, 500).then(b -> b.setPrice(2, price))
                .then(Edge.sold(0, (1 << tickets) - 1, 1));
        Edge.asked(due, steps, b -> b.ticket(0, tickets - 1, 4));
        Edge.asked(due, steps, b -> b.ticket(0, 0, 4));
        Edge.asked(due * tickets, steps, b -> b.account(0));
    }

    private static void amounts() {
        Edge.sentence("Description", "The amount of a ticket is the sum of the prices of its seats at the moment of the "
                + "confirmation; if there are at least 3 tickets, each amount decreases by a tenth of it, and this "
                + "tenth is rounded down.");
        amount(100, 100, 1);
        amount(100, 100, 2);
        amount(90, 100, 3);
        amount(90, 100, 6);
        amount(9, 9, 3);
        amount(9, 10, 3);
        amount(10, 11, 3);
        amount(18, 19, 4);
        amount(0, 0, 3);
        amount(1, 1, 5);
        amount(90000, 100000, 6);
        amount(100000, 100000, 2);
        Edge.Steps seats = Edge.open("222", 500, 500, 500).then(b -> b.setPrice(2, 5));
        Edge.asked(14, seats.then(Edge.sold(0, 7, 3)), b -> b.ticket(0, 2, 4));
        Edge.Steps held = Edge.open("2", 500).then(b -> b.hold(0, 1, 1, 0, 0, 9)).then(b -> b.setPrice(2, 7));
        Edge.due(7, held, b -> b.confirm(0));
        Edge.asked(7, held.then(b -> b.confirm(0)).then(b -> b.setPrice(2, 8)), b -> b.ticket(0, 0, 4));
        Edge.asked(99 * 33 / 100 * 2, Edge.hall("22").then(b -> b.addPerformance(500, 33)).then(b -> b.setPrice(2, 99))
                .then(Edge.sold(0, 1, 2)), b -> b.ticket(0, 0, 4));
        Edge.sentence("Description", "The customer pays all amounts.");
        Edge.Steps three = Edge.open("2", 500, 600, 700).then(b -> b.hold(4, 7, 1, 0, 0, 9));
        Edge.asked(0, three, b -> b.account(4));
        Edge.asked(3 * 2700, three.then(b -> b.confirm(0)), b -> b.account(4));
        Edge.asked(0, three.then(b -> b.confirm(0)), b -> b.account(3));
        Edge.asked(3, three.then(b -> b.confirm(0)), b -> b.ledger(-1, 0));
    }

    /** A number of orders of customer 0 for a set, one seat each. */
    private static Edge.Steps orders(int n, int set) {
        return b -> {
            for (int i = 0; i < n; i++) {
                b.hold(0, set, 1, 0, 0, 60);
                b.confirm(i);
            }
        };
    }

    private static void numberOfOrders() {
        Edge.sentence("Description", "There are at most 20 orders with tickets.");
        Edge.Steps open = Edge.open(PLENTY, 500, 600);
        Edge.due(3000, open.then(orders(19, 1)).then(b -> b.hold(0, 1, 1, 0, 0, 9)), b -> b.confirm(19));
        Edge.Steps full = open.then(orders(20, 3)).then(b -> b.hold(0, 1, 1, 0, 0, 9));
        Edge.asked(20, full, b -> b.count(3));
        Edge.asked(40, full, b -> b.count(4));
        Edge.refused(2, full, b -> b.confirm(20));
        Edge.refused(2, full.then(b -> b.refund(7, 0)), b -> b.confirm(20));
        Edge.due(3000, full.then(b -> b.refund(7, 0)).then(b -> b.refund(7, 1)), b -> b.confirm(20));
        Edge.refused(2, full.then(b -> b.refund(7, 0)).then(b -> b.exchange(7, 1, 0)), b -> b.confirm(20));
        Edge.Steps six = Edge.open(PLENTY, 500, 500, 500, 500, 500, 500).then(orders(20, 63));
        Edge.asked(120, six, b -> b.count(4));
        Edge.asked(20, six, b -> b.count(3));
        Edge.asked(2700, six, b -> b.ticket(19, 5, 4));
        Edge.asked(120 * 2700, six, b -> b.account(0));
        Edge.asked(20 * 2700, six, b -> b.performance(5, 2));
        Edge.refused(2, six.then(b -> b.hold(0, 63, 1, 0, 0, 9)), b -> b.confirm(20));
    }

    private static void exchanged() {
        Edge.sentence("Description", "To exchange a ticket of an order for another performance means: the best block "
                + "for the performance, with the number of seats of the ticket and the category 0, and of the kind 1 "
                + "if the block of the ticket has an accessible place, and otherwise of the kind 0, is sold instead of "
                + "the block of the ticket, whose seats become free.");
        Edge.Steps open = Edge.open("2211/4444", 500, 600).then(b -> b.setFocus(0))
                .then(b -> b.hold(5, 1, 2, 2, 0, 9)).then(b -> b.confirm(0));
        Edge.Steps moved = open.then(b -> b.setFocus(1)).then(b -> b.exchange(0, 0, 1));
        Edge.asked(2, moved, b -> b.ticket(0, 1, 3));
        Edge.asked(10, moved, b -> 10 * b.ticket(0, 1, 1) + b.ticket(0, 1, 2));
        Edge.asked(0, moved, b -> b.holder(1, 1, 1));
        Edge.asked(0, moved, b -> b.state(0, 0, 0));
        Edge.asked(8, moved, b -> b.performance(0, 3));
        Edge.asked(2, moved, b -> b.performance(1, 5));
        Edge.missing(moved, b -> b.ticket(0, 0, 0));
        Edge.asked(1, moved, b -> b.count(4));
        kinds();
        Edge.Steps all = Edge.open("22222222/22222222", 500).then(Edge.sold(0, 1, 8));
        Edge.asked(0, all, b -> b.state(0, 0, 0));
        Edge.asked(0, all.then(b -> b.exchange(0, 0, 0)), b -> b.state(0, 1, 0));
        Edge.asked(2, all.then(b -> b.exchange(0, 0, 0)), b -> b.state(0, 0, 7));
    }

    private static void kinds() {
        Edge.Steps special = Edge.open("1w2/..w", 500, 600).then(b -> b.setRule(false)).then(b -> b.setFocus(0));
        Edge.Steps one = special.then(b -> b.hold(0, 1, 1, 0, 1, 9)).then(b -> b.confirm(0));
        Edge.asked(1, one, b -> b.ticket(0, 0, 2));
        Edge.asked(1, one.then(b -> b.exchange(0, 0, 1)), b -> b.ticket(0, 1, 2));
        Edge.asked(12, one.then(b -> b.exchange(0, 0, 0)), b -> 10 * b.ticket(0, 0, 1) + b.ticket(0, 0, 2));
        Edge.refused(1, one.then(b -> b.block(0, 1, 2, true)), b -> b.exchange(0, 0, 0));
        Edge.Steps pair = special.then(b -> b.hold(0, 1, 2, 0, 1, 9)).then(b -> b.confirm(0));
        Edge.asked(0, pair, b -> b.ticket(0, 0, 2));
        Edge.asked(0, pair.then(b -> b.exchange(0, 0, 1)), b -> b.ticket(0, 1, 2));
        Edge.refused(1, pair, b -> b.exchange(0, 0, 0));
        Edge.Steps plain = special.then(b -> b.hold(0, 1, 1, 2, 0, 9)).then(b -> b.confirm(0));
        Edge.asked(0, plain.then(b -> b.exchange(0, 0, 0)), b -> b.ticket(0, 0, 2));
        Edge.refused(1, plain.then(b -> b.block(0, 0, 0, true)), b -> b.exchange(0, 0, 0));
        Edge.Steps last = Edge.open("11w/111", 500, 600).then(b -> b.hold(0, 1, 3, 0, 1, 9)).then(b -> b.confirm(0));
        Edge.asked(0, last, b -> b.ticket(0, 0, 1));
        Edge.asked(0, last.then(b -> b.exchange(0, 0, 1)), b -> b.ticket(0, 1, 1));
        beside("22w3", 3);
        beside("3w22", 0);
        Edge.Steps companion = Edge.open("2c", 500, 560).then(b -> b.hold(0, 1, 1, 2, 0, 9))
                .then(b -> b.confirm(0)).then(b -> b.block(1, 0, 0, true));
        Edge.refused(1, companion.then(b -> b.advance(439)), b -> b.exchange(0, 0, 0));
        Edge.due(1000, companion.then(b -> b.advance(440)), b -> b.exchange(0, 0, 0));
        Edge.refused(1, companion.then(b -> b.advance(499)), b -> b.exchange(0, 0, 1));
    }

    /** A ticket beside an accessible place is exchanged for the seat of the category 3, which has none beside. */
    private static void beside(String row, int column) {
        Edge.Steps steps = Edge.open(row, 500).then(b -> b.setRule(false)).then(b -> b.hold(0, 1, 1, 2, 0, 9))
                .then(b -> b.confirm(0)).then(b -> b.hold(0, 1, 1, 2, 0, 9));
        Edge.asked(column, steps.then(b -> b.exchange(0, 0, 0)), b -> b.ticket(0, 0, 2));
    }

    private static void exchangedAmount() {
        Edge.sentence("Description", "The amount of the new ticket is the sum of the prices of its seats at this "
                + "moment, without the tenth; the customer pays the difference, or gets it back if it is negative.");
        Edge.Steps three = Edge.open("22", 500, 600, 700).then(b -> b.hold(6, 7, 1, 0, 0, 9)).then(b -> b.confirm(0));
        Edge.Steps dearer = three.then(b -> b.exchange(0, 0, 0));
        Edge.Steps same = dearer.then(b -> b.exchange(0, 0, 0));
        Edge.Steps cheaper = same.then(b -> b.setPrice(2, 1000)).then(b -> b.exchange(0, 0, 0));
        Edge.due(300, three, b -> b.exchange(0, 0, 0));
        Edge.asked(3000, dearer, b -> b.ticket(0, 0, 4));
        Edge.asked(8400, dearer, b -> b.account(6));
        Edge.due(0, dearer, b -> b.exchange(0, 0, 0));
        Edge.asked(8400, same, b -> b.account(6));
        Edge.due(-2000, same.then(b -> b.setPrice(2, 1000)), b -> b.exchange(0, 0, 0));
        Edge.asked(1000, cheaper, b -> b.ticket(0, 0, 4));
        Edge.asked(6400, cheaper, b -> b.account(6));
        Edge.asked(2700, cheaper, b -> b.ticket(0, 1, 4));
        Edge.due(-3000, dearer.then(b -> b.setPrice(2, 0)), b -> b.exchange(0, 0, 0));
        Edge.due(97300, three.then(b -> b.setPrice(2, 100000)), b -> b.exchange(0, 0, 0));
        Edge.Steps other = three.then(b -> b.addPerformance(800, 33)).then(b -> b.setPrice(2, 101));
        Edge.due(33 - 2700, other, b -> b.exchange(0, 1, 3));
        Edge.asked(33, other.then(b -> b.exchange(0, 1, 3)), b -> b.ticket(0, 3, 4));
    }

    private static void back(int due, int amount, int minutes) {
        Edge.Steps steps = Edge.open("2", 500).then(b -> b.setPrice(2, amount)).then(b -> b.hold(8, 1, 1, 0, 0, 60))
                .then(b -> b.confirm(0)).then(b -> b.setPrice(2, 77)).then(b -> b.advance(500 - minutes));
        Edge.due(due, steps, b -> b.refund(0, 0));
        Edge.asked(amount - due, steps.then(b -> b.refund(0, 0)), b -> b.performance(0, 2));
        Edge.asked(amount - due, steps.then(b -> b.refund(0, 0)), b -> b.account(8));
        Edge.asked(-due, steps.then(b -> b.refund(0, 0)), b -> b.ledger(1, 2));
    }

    private static void refunded() {
        Edge.sentence("Description", "For a ticket, the customer gets back its amount if its performance starts at "
                + "least 120 minutes later, and otherwise half of it, rounded down; the rest is kept by the "
                + "performance.");
        back(1000, 1000, 121);
        back(1000, 1000, 120);
        back(500, 1000, 119);
        back(500, 1000, 1);
        back(500, 1001, 119);
        back(1001, 1001, 120);
        back(0, 1, 119);
        back(1, 1, 120);
        back(1, 3, 60);
        back(0, 0, 120);
        back(0, 0, 1);
        back(50000, 100000, 119);
        Edge.Steps end = Edge.at(100000).then(Edge.sold(0, 1, 1));
        Edge.due(3000, end.then(Edge.until(99880)), b -> b.refund(0, 0));
        Edge.due(1500, end.then(Edge.until(99881)), b -> b.refund(0, 0));
        Edge.due(1500, end.then(Edge.until(99999)), b -> b.refund(0, 0));
        Edge.refused(3, end.then(Edge.until(100000)), b -> b.refund(0, 0));
        Edge.due(2700, Edge.at(500, 500, 500).then(Edge.sold(0, 7, 1)), b -> b.refund(0, 1));
    }

    private static void refundedSeats() {
        Edge.sentence("Description", "Its seats become free, and the order no longer has this ticket.");
        Edge.Steps two = Edge.at(500, 600).then(Edge.sold(0, 3, 2));
        Edge.Steps one = two.then(b -> b.refund(0, 0));
        Edge.asked(0, one, b -> b.state(0, 1, 2));
        Edge.asked(0, one, b -> b.state(0, 1, 3));
        Edge.missing(one, b -> b.holder(0, 1, 2));
        Edge.asked(2, one, b -> b.state(1, 1, 2));
        Edge.missing(one, b -> b.ticket(0, 0, 4));
        Edge.asked(6000, one, b -> b.ticket(0, 1, 4));
        Edge.asked(1, one, b -> b.count(3));
        Edge.asked(1, one, b -> b.count(4));
        Edge.Steps none = one.then(b -> b.refund(0, 1));
        Edge.asked(0, none, b -> b.count(3));
        Edge.asked(0, none, b -> b.count(4));
        Edge.missing(none, b -> b.ticket(0, 1, 4));
        Edge.refused(5, none, b -> b.refund(0, 1));
        Edge.asked(18, none, b -> b.performance(1, 3));
        Edge.due(1, one, b -> b.hold(0, 1, 6, 0, 0, 9));
    }

    // Promises 16 to 18

    private static void hold() {
        Edge.sentence("Promise 16", "Holds the best block for a request.");
        Edge.Steps open = Edge.open("12w21/c1122/2.221", 500, 600).then(b -> b.block(1, 1, 2, true));
        for (int seats = 1; seats <= 3; seats++) {
            for (int request = 0; request < 12; request++) {
                sameAsBest(open, 1 + request % 3, seats, request / 3 % 2 * 2, request / 6);
            }
        }
        Edge.sentence("Promise 16", "- `seats`: the number of seats, 1 to 8");
        Edge.Steps eight = Edge.open("22222222", 500);
        Edge.due(0, eight, b -> b.hold(0, 1, 1, 0, 0, 9));
        Edge.due(0, eight, b -> b.hold(0, 1, 8, 0, 0, 9));
        Edge.asked(8, eight.then(b -> b.hold(0, 1, 8, 0, 0, 9)), b -> b.heldBy(0, 4));
        Edge.sentence("Promise 16", "- `category`: the category, 0 to 4");
        Edge.asked(0, Edge.open("1..4", 500).then(b -> b.hold(0, 1, 1, 0, 0, 9)), b -> b.heldBy(0, 3));
        Edge.asked(3, Edge.open("1..4", 500).then(b -> b.hold(0, 1, 1, 4, 0, 9)), b -> b.heldBy(0, 3));
        Edge.sentence("Promise 16", "- `kind`: the kind, 0 or 1");
        Edge.asked(0, Edge.open("1..w", 500).then(b -> b.hold(0, 1, 1, 0, 0, 9)), b -> b.heldBy(0, 3));
        Edge.asked(3, Edge.open("1..w", 500).then(b -> b.hold(0, 1, 1, 0, 1, 9)), b -> b.heldBy(0, 3));
        Edge.sentence("Promise 16", "- `minutes`: after how many minutes the hold expires, 1 to 60");
        Edge.due(1, eight.then(b -> b.hold(0, 1, 1, 0, 0, 1)), b -> b.advance(1));
        Edge.due(0, eight.then(b -> b.hold(0, 1, 1, 0, 0, 60)), b -> b.advance(59));
        Edge.due(1, eight.then(b -> b.hold(0, 1, 1, 0, 0, 60)), b -> b.advance(60));
        Edge.sentence("Promise 16", "Returns the number of the hold.");
        Edge.due(0, eight, b -> b.hold(0, 1, 1, 0, 0, 1));
        Edge.due(1, eight.then(b -> b.hold(0, 1, 1, 0, 0, 1)), b -> b.hold(9, 1, 1, 0, 0, 60));
        Edge.due(0, eight.then(b -> b.hold(0, 1, 1, 0, 0, 1)).then(Box::undo), b -> b.hold(9, 1, 1, 0, 0, 60));
        Edge.due(0, eight.then(holds(3, 9)).then(Edge.open("2", 9)), b -> b.hold(9, 1, 1, 0, 0, 60));
    }

    private static void sameAsBest(Edge.Steps open, int set, int seats, int category, int kind) {
        String row = outcome(open, b -> b.best(set, seats, category, kind, 0));
        String column = outcome(open, b -> b.best(set, seats, category, kind, 1));
        if (row.equals("NoSuchElementException")) {
            Edge.refused(1, open, b -> b.hold(0, set, seats, category, kind, 9));
            return;
        }
        Edge.Steps held = open.then(b -> b.hold(0, set, seats, category, kind, 9));
        Edge.asked(row, held, b -> b.heldBy(0, 2));
        Edge.asked(column, held, b -> b.heldBy(0, 3));
    }

    private static String outcome(Edge.Steps steps, Edge.Ask call) {
        Box box = new Box();
        steps.on(box);
        return Edge.outcome(box, call);
    }

    private static void holdNumbers() {
        Edge.Steps one = Edge.at(500).then(b -> b.advance(3));
        Edge.Steps started = Edge.at(500).then(b -> b.advance(500));
        Edge.sentence("Promise 16", "Throws `IndexOutOfBoundsException` if there is no such customer, or as for "
                + "blockCount");
        for (int customer : new int[] {-1, 10, 11, MIN, MAX}) {
            Edge.range(one, b -> b.hold(customer, 1, 1, 0, 0, 9));
            Edge.range(one, b -> b.hold(customer, 1, 0, 0, 0, 9));
            Edge.range(started, b -> b.hold(customer, 1, 1, 0, 0, 9));
        }
        for (int set : new int[] {0, 2, 3, 64, -1, MIN, MIN + 1, MAX}) {
            Edge.range(one, b -> b.hold(0, set, 1, 0, 0, 9));
            Edge.range(one, b -> b.hold(0, set, 9, 5, 2, 0));
            Edge.range(started, b -> b.hold(0, set, 1, 0, 0, 9));
        }
        Edge.range(Edge.NEW, b -> b.hold(0, 1, 1, 0, 0, 9));
        Edge.due(0, one, b -> b.hold(0, 1, 1, 0, 0, 9));
        Edge.due(0, one, b -> b.hold(9, 1, 1, 0, 0, 9));
        Edge.sentence("Promise 16", "Throws `IllegalArgumentException` if another number is out of range");
        int[][] wrong = {{0, 0, 0, 9}, {9, 0, 0, 9}, {-1, 0, 0, 9}, {MIN, 0, 0, 9}, {MAX, 0, 0, 9}, {1, -1, 0, 9},
            {1, 5, 0, 9}, {1, MAX, 0, 9}, {1, 0, -1, 9}, {1, 0, 2, 9}, {1, 0, MIN, 9}, {1, 0, 0, 0}, {1, 0, 0, 61},
            {1, 0, 0, -1}, {1, 0, 0, MIN}, {1, 0, 0, MAX}};
        for (int[] w : wrong) {
            Edge.argument(one, b -> b.hold(0, 1, w[0], w[1], w[2], w[3]));
            Edge.argument(started, b -> b.hold(0, 1, w[0], w[1], w[2], w[3]));
            Edge.argument(Edge.open(".", 9), b -> b.hold(0, 1, w[0], w[1], w[2], w[3]));
        }
    }

    private static void holdRefused() {
        Edge.sentence("Promise 16", "Throws `IllegalStateException` if one of the performances has started (3), no "
                + "block fits (1), or there are 12 holds (2)");
        Edge.Steps open = Edge.open(PLENTY, 500, 600);
        Edge.Steps full = open.then(b -> b.advance(490)).then(holds(12, 60));
        Edge.refused(2, full, b -> b.hold(0, 1, 1, 0, 0, 9));
        Edge.refused(1, full, b -> b.hold(0, 1, 1, 1, 0, 9));
        Edge.refused(1, open, b -> b.hold(0, 1, 1, 0, 1, 9));
        Edge.refused(1, open.then(holds(3, 9)), b -> b.hold(0, 3, 1, 4, 0, 9));
        Edge.Steps late = full.then(b -> b.advance(10));
        Edge.refused(3, late, b -> b.hold(0, 1, 1, 0, 0, 9));
        Edge.refused(3, late, b -> b.hold(0, 3, 1, 0, 0, 9));
        Edge.refused(3, late, b -> b.hold(0, 1, 1, 1, 0, 9));
        Edge.refused(3, late, b -> b.hold(0, 3, 8, 4, 1, 9));
        Edge.refused(2, late, b -> b.hold(0, 2, 1, 0, 0, 9));
        Edge.refused(1, late, b -> b.hold(0, 2, 1, 1, 0, 9));
        Edge.due(12, late.then(b -> b.release(0)), b -> b.hold(0, 2, 1, 0, 0, 9));
        Edge.refused(3, open.then(b -> b.advance(500)), b -> b.hold(0, 3, 1, 0, 0, 9));
        Edge.due(0, open.then(b -> b.advance(500)), b -> b.hold(0, 2, 1, 0, 0, 9));
        Edge.refused(3, open.then(b -> b.advance(600)), b -> b.hold(0, 2, 1, 0, 0, 9));
    }

    private static final int[] NO_NUMBERS = {-1, 4, 5, 100, MIN, MAX};

    /** The holds 0 to 3: the first stands, the others were released, confirmed, and have expired. */
    private static Edge.Steps fourHolds() {
        return Edge.at(500, 600).then(b -> b.hold(0, 3, 1, 0, 0, 60)).then(b -> b.hold(1, 1, 1, 0, 0, 9))
                .then(b -> b.hold(2, 2, 1, 0, 0, 9)).then(b -> b.hold(3, 1, 1, 0, 0, 9)).then(b -> b.release(1))
                .then(b -> b.confirm(2)).then(b -> b.advance(9));
    }

    private static void release() {
        Edge.sentence("Promise 17", "Releases a hold; its seats become free.");
        Edge.Steps held = Edge.at(500, 600).then(b -> b.hold(0, 3, 2, 0, 0, 60));
        Edge.asked(0, held.then(b -> b.release(0)), b -> b.state(0, 1, 2));
        Edge.asked(0, held.then(b -> b.release(0)), b -> b.state(1, 1, 3));
        Edge.asked(18, held.then(b -> b.release(0)), b -> b.performance(0, 3));
        Edge.asked(0, held.then(b -> b.release(0)), b -> b.count(2));
        Edge.asked(1, held.then(b -> b.release(0)), b -> b.count(5));
        Edge.asked(0, held.then(b -> b.release(0)), b -> b.ledger(-1, 0));
        Edge.sentence("Promise 17", "Returns the number of minutes that were left.");
        Edge.due(60, held, b -> b.release(0));
        Edge.due(1, held.then(b -> b.advance(59)), b -> b.release(0));
        Edge.due(1, Edge.at(9).then(b -> b.hold(0, 1, 2, 0, 0, 1)), b -> b.release(0));
        Edge.due(20, Edge.at(500).then(b -> b.advance(480)).then(b -> b.hold(0, 1, 1, 0, 0, 60))
                .then(b -> b.advance(40)), b -> b.release(0));
        Edge.sentence("Promise 17", "Throws `NoSuchElementException` if there is no such hold");
        Edge.missing(Edge.NEW, b -> b.release(0));
        for (int number = 1; number <= 3; number++) {
            int n = number;
            Edge.missing(fourHolds(), b -> b.release(n));
        }
        for (int number : NO_NUMBERS) {
            Edge.missing(fourHolds(), b -> b.release(number));
        }
        Edge.missing(held.then(Box::undo), b -> b.release(0));
        Edge.missing(held.then(Edge.hall("1")), b -> b.release(0));
    }

    private static void confirm() {
        Edge.sentence("Promise 18", "Confirms a hold, which becomes an order.");
        Edge.Steps held = Edge.at(500, 600).then(b -> b.hold(4, 3, 2, 0, 0, 60));
        Edge.Steps sold = held.then(b -> b.confirm(0));
        Edge.asked(2, sold, b -> b.state(0, 1, 2));
        Edge.asked(2, sold, b -> b.state(1, 1, 3));
        Edge.asked(0, sold, b -> b.holder(1, 1, 3));
        Edge.asked(0, sold, b -> b.count(2));
        Edge.asked(1, sold, b -> b.count(3));
        Edge.asked(4, sold, b -> b.ticket(0, 1, 0));
        Edge.missing(sold, b -> b.heldBy(0, 0));
        Edge.due(0, sold, b -> b.advance(60));
        Edge.sentence("Promise 18", "Returns the sum of all amounts.");
        Edge.due(12000, held, b -> b.confirm(0));
        Edge.due(0, held.then(b -> b.setPrice(2, 0)), b -> b.confirm(0));
        Edge.due(3 * 2700, Edge.at(9, 9, 9).then(b -> b.hold(4, 7, 1, 0, 0, 60)), b -> b.confirm(0));
        Edge.due(6 * 8 * 270000, Edge.hall("22222222").then(Edge.times(6, b -> b.addPerformance(9, 300)))
                .then(b -> b.setPrice(2, 100000)).then(b -> b.hold(4, 63, 8, 0, 0, 60)), b -> b.confirm(0));
        Edge.sentence("Promise 18", "Throws `NoSuchElementException` if there is no such hold");
        Edge.missing(Edge.NEW, b -> b.confirm(0));
        for (int number = 1; number <= 3; number++) {
            int n = number;
            Edge.missing(fourHolds(), b -> b.confirm(n));
        }
        for (int number : NO_NUMBERS) {
            Edge.missing(fourHolds(), b -> b.confirm(number));
        }
        Edge.missing(held.then(b -> b.advance(60)), b -> b.confirm(0));
        Edge.due(12000, held.then(b -> b.advance(59)), b -> b.confirm(0));
    }

    private static void confirmRefused() {
        Edge.sentence("Promise 18", "Throws `IllegalStateException` if one of its performances has started (3), or "
                + "there are 20 orders with tickets (2)");
        Edge.Steps open = Edge.open(PLENTY, 50, 600, 40).then(orders(20, 2));
        Edge.Steps first = open.then(b -> b.hold(0, 1, 1, 0, 0, 60));
        Edge.refused(2, first, b -> b.confirm(20));
        Edge.refused(2, first.then(b -> b.advance(49)), b -> b.confirm(20));
        Edge.refused(3, first.then(b -> b.advance(50)), b -> b.confirm(20));
        Edge.due(3000, first.then(b -> b.refund(3, 1)), b -> b.confirm(20));
        Edge.Steps last = open.then(b -> b.refund(19, 1)).then(b -> b.hold(0, 6, 1, 0, 0, 60));
        Edge.due(6000, last.then(b -> b.advance(39)), b -> b.confirm(20));
        Edge.refused(3, last.then(b -> b.advance(40)), b -> b.confirm(20));
        Edge.refused(3, last.then(b -> b.advance(59)), b -> b.confirm(20));
        Edge.missing(last.then(b -> b.advance(60)), b -> b.confirm(20));
        Edge.asked(1, last.then(b -> b.advance(40)), b -> b.count(2));
        Edge.missing(open, b -> b.confirm(20));
    }

    // Promises 19 and 20

    private static void heldBy() {
        Edge.sentence("Promise 19", "- `what`: 0 for its customer, 1 for its set of performances, 2 for its row, 3 for "
                + "its first column, 4 for its number of seats, 5 for its expiry");
        Edge.Steps held = Edge.open("22.222", 500, 600, 700).then(b -> b.advance(7))
                .then(b -> b.hold(9, 5, 3, 0, 0, 60)).then(b -> b.hold(0, 2, 1, 0, 0, 1));
        int[] first = {9, 5, 0, 3, 3, 67};
        int[] second = {0, 2, 0, 3, 1, 8};
        for (int what = 0; what <= 5; what++) {
            int w = what;
            Edge.asked(first[w], held, b -> b.heldBy(0, w));
            Edge.asked(second[w], held, b -> b.heldBy(1, w));
        }
        Edge.asked(63, Edge.times(6, Edge.at(9)).then(b -> b.hold(0, 63, 1, 0, 0, 1)), b -> b.heldBy(0, 1));
        Edge.sentence("Promise 19", "Throws `NoSuchElementException` if there is no such hold");
        for (int number = 1; number <= 3; number++) {
            int n = number;
            Edge.missing(fourHolds(), b -> b.heldBy(n, 0));
            Edge.missing(fourHolds(), b -> b.heldBy(n, 6));
        }
        for (int number : NO_NUMBERS) {
            Edge.missing(fourHolds(), b -> b.heldBy(number, 0));
            Edge.missing(fourHolds(), b -> b.heldBy(number, -1));
        }
        Edge.missing(Edge.NEW, b -> b.heldBy(0, 0));
        Edge.sentence("Promise 19", "Throws `IllegalArgumentException` if what is out of range");
        for (int what : new int[] {-1, 6, 7, MIN, MAX}) {
            Edge.argument(fourHolds(), b -> b.heldBy(0, what));
        }
    }

    private static void ticket() {
        Edge.sentence("Promise 20", "- `what`: 0 for the customer, 1 for the row, 2 for the first column, 3 for the "
                + "number of seats, 4 for the amount");
        Edge.Steps sold = Edge.open("....../22.222", 500, 600, 700).then(b -> b.hold(9, 5, 3, 0, 0, 60))
                .then(b -> b.confirm(0));
        int[] due = {9, 1, 3, 3, 9000};
        for (int what = 0; what <= 4; what++) {
            int w = what;
            Edge.asked(due[w], sold, b -> b.ticket(0, 0, w));
            Edge.asked(due[w], sold, b -> b.ticket(0, 2, w));
        }
        Edge.sentence("Promise 20", "Throws `NoSuchElementException` if there is no such order with a ticket for this "
                + "performance");
        for (int performance : new int[] {1, 3, 5, 6, 31, 32, 34, -1, -32, MIN, MAX}) {
            Edge.missing(sold, b -> b.ticket(0, performance, 0));
            Edge.missing(sold, b -> b.ticket(0, performance, 5));
        }
        for (int order : new int[] {1, -1, 2, MIN, MAX}) {
            Edge.missing(sold, b -> b.ticket(order, 0, 0));
            Edge.missing(sold, b -> b.ticket(order, 0, -1));
        }
        Edge.missing(Edge.NEW, b -> b.ticket(0, 0, 0));
        Edge.missing(Edge.at(9).then(b -> b.hold(0, 1, 1, 0, 0, 1)), b -> b.ticket(0, 0, 0));
        Edge.missing(sold.then(b -> b.refund(0, 0)), b -> b.ticket(0, 0, 0));
        Edge.missing(sold.then(b -> b.exchange(0, 0, 1)), b -> b.ticket(0, 0, 0));
        Edge.missing(sold.then(Box::undo), b -> b.ticket(0, 0, 0));
        Edge.missing(sold.then(Edge.open("2", 9)), b -> b.ticket(0, 0, 0));
        Edge.sentence("Promise 20", "Throws `IllegalArgumentException` if what is out of range");
        for (int what : new int[] {-1, 5, 6, MIN, MAX}) {
            Edge.argument(sold, b -> b.ticket(0, 0, what));
            Edge.argument(sold, b -> b.ticket(0, 2, what));
        }
    }

    // Promises 21 and 22

    private static void exchange() {
        Edge.sentence("Promise 21", "Its own seats do not count as free when the best block is looked for, even if the "
                + "performance stays the same.");
        Edge.refused(1, Edge.open("2", 500).then(Edge.sold(0, 1, 1)), b -> b.exchange(0, 0, 0));
        Edge.refused(1, Edge.open("222", 500).then(Edge.sold(0, 1, 2)), b -> b.exchange(0, 0, 0));
        Edge.refused(1, Edge.open("222222222222", 500).then(Edge.sold(0, 1, 7)),
                b -> b.exchange(0, 0, 0));
        Edge.Steps two = Edge.open("22", 500).then(Edge.sold(0, 1, 1));
        Edge.asked(1, two.then(b -> b.exchange(0, 0, 0)), b -> b.ticket(0, 0, 2));
        Edge.asked(0, two.then(b -> b.exchange(0, 0, 0)).then(b -> b.exchange(0, 0, 0)), b -> b.ticket(0, 0, 2));
        Edge.Steps orphan = Edge.open("2222.22", 500).then(b -> b.hold(0, 1, 2, 0, 0, 9)).then(b -> b.confirm(0));
        Edge.asked(2, orphan, b -> b.ticket(0, 0, 2));
        Edge.asked(0, orphan.then(b -> b.exchange(0, 0, 0)), b -> b.ticket(0, 0, 2));
        Edge.Steps other = Edge.open("2", 500, 600).then(Edge.sold(0, 1, 1));
        Edge.due(0, other, b -> b.exchange(0, 0, 1));
        Edge.due(0, other.then(b -> b.exchange(0, 0, 1)), b -> b.exchange(0, 1, 0));
        Edge.sentence("Promise 21", "Returns the difference.");
        Edge.due(0, two, b -> b.exchange(0, 0, 0));
        Edge.due(1, two.then(b -> b.setPrice(2, 3001)), b -> b.exchange(0, 0, 0));
        Edge.due(-1, two.then(b -> b.setPrice(2, 2999)), b -> b.exchange(0, 0, 0));
        Edge.sentence("Promise 21", "Throws `IndexOutOfBoundsException` if there is no performance to");
        for (int to : new int[] {-1, 2, 3, 6, 32, MIN, MAX}) {
            Edge.range(other, b -> b.exchange(0, 0, to));
            Edge.range(other, b -> b.exchange(9, 9, to));
            Edge.range(other.then(b -> b.advance(1000)), b -> b.exchange(0, 0, to));
        }
        Edge.range(Edge.NEW, b -> b.exchange(0, 0, 0));
    }

    private static void exchangeRefused() {
        Edge.sentence("Promise 21", "Throws `IllegalStateException` if the order has no ticket for the performance from "
                + "(5), one of both performances has started (3), the order has another ticket for the performance to "
                + "(6), or no block fits (1)");
        Edge.Steps three = Edge.open("22", 500, 600, 700).then(b -> b.hold(0, 3, 2, 0, 0, 60)).then(b -> b.confirm(0));
        for (int order : new int[] {1, 2, -1, MIN, MAX}) {
            Edge.refused(5, three, b -> b.exchange(order, 0, 2));
        }
        for (int from : new int[] {2, 3, 5, 6, 31, 32, 33, -1, -32, MIN, MAX}) {
            Edge.refused(5, three, b -> b.exchange(0, from, 2));
            Edge.refused(5, three.then(b -> b.advance(700)), b -> b.exchange(0, from, 2));
        }
        Edge.refused(5, three.then(b -> b.hold(0, 4, 2, 0, 0, 60)), b -> b.exchange(1, 2, 2));
        Edge.refused(5, three.then(b -> b.refund(0, 0)), b -> b.exchange(0, 0, 2));
        Edge.refused(5, three.then(b -> b.refund(0, 0)).then(b -> b.advance(500)), b -> b.exchange(0, 0, 1));
        Edge.refused(6, three, b -> b.exchange(0, 0, 1));
        Edge.refused(6, three, b -> b.exchange(0, 1, 0));
        Edge.refused(1, three, b -> b.exchange(0, 0, 0));
        Edge.due(0, three, b -> b.exchange(0, 0, 2));
        Edge.due(0, three.then(b -> b.refund(0, 0)), b -> b.exchange(0, 1, 0));
        Edge.refused(1, three.then(b -> b.block(2, 0, 0, true)), b -> b.exchange(0, 0, 2));
        Edge.due(0, three.then(b -> b.advance(499)), b -> b.exchange(0, 0, 2));
        Edge.Steps started = three.then(b -> b.advance(500));
        Edge.refused(3, started, b -> b.exchange(0, 0, 2));
        Edge.refused(3, started, b -> b.exchange(0, 0, 0));
        Edge.refused(3, started, b -> b.exchange(0, 0, 1));
        Edge.refused(3, started, b -> b.exchange(0, 1, 0));
        Edge.due(0, started, b -> b.exchange(0, 1, 2));
        Edge.refused(3, started.then(b -> b.block(2, 0, 0, true)), b -> b.exchange(0, 0, 2));
        Edge.Steps back = Edge.open("22", 600, 500).then(Edge.sold(0, 1, 1)).then(b -> b.advance(500));
        Edge.refused(3, back, b -> b.exchange(0, 0, 1));
        Edge.refused(3, back.then(b -> b.block(1, 0, 0, true)).then(b -> b.block(1, 0, 1, true)),
                b -> b.exchange(0, 0, 1));
        Edge.due(0, back, b -> b.exchange(0, 0, 0));
    }

    private static void refund() {
        Edge.Steps three = Edge.at(500, 600, 700).then(b -> b.hold(3, 3, 2, 0, 0, 60)).then(b -> b.confirm(0));
        Edge.sentence("Promise 22", "Returns what the customer gets back.");
        Edge.due(6000, three, b -> b.refund(0, 0));
        Edge.due(6000, three.then(b -> b.advance(380)), b -> b.refund(0, 0));
        Edge.due(3000, three.then(b -> b.advance(381)), b -> b.refund(0, 0));
        Edge.due(6000, three.then(b -> b.advance(381)), b -> b.refund(0, 1));
        Edge.due(3000, three.then(b -> b.advance(499)), b -> b.refund(0, 0));
        Edge.due(0, Edge.at(500).then(b -> b.setPrice(2, 0)).then(Edge.sold(0, 1, 1)), b -> b.refund(0, 0));
        Edge.sentence("Promise 22", "Throws `IllegalStateException` if the order has no such ticket (5), or the "
                + "performance has started (3)");
        for (int order : new int[] {1, -1, 2, MIN, MAX}) {
            Edge.refused(5, three, b -> b.refund(order, 0));
            Edge.refused(5, three.then(b -> b.advance(700)), b -> b.refund(order, 0));
        }
        for (int performance : new int[] {2, 3, 5, 6, 31, 32, 33, -1, -32, MIN, MAX}) {
            Edge.refused(5, three, b -> b.refund(0, performance));
            Edge.refused(5, three.then(b -> b.advance(700)), b -> b.refund(0, performance));
        }
        Edge.refused(5, three.then(b -> b.refund(0, 1)), b -> b.refund(0, 1));
        Edge.refused(5, three.then(b -> b.exchange(0, 1, 2)), b -> b.refund(0, 1));
        Edge.refused(5, three.then(b -> b.hold(0, 4, 1, 0, 0, 9)), b -> b.refund(1, 2));
        Edge.refused(3, three.then(b -> b.advance(500)), b -> b.refund(0, 0));
        Edge.due(3000, three.then(b -> b.advance(500)), b -> b.refund(0, 1));
        Edge.refused(3, three.then(b -> b.advance(10000)), b -> b.refund(0, 1));
        Edge.refused(5, three.then(b -> b.refund(0, 0)).then(b -> b.advance(500)), b -> b.refund(0, 0));
        Edge.refused(5, Edge.NEW, b -> b.refund(0, 0));
    }
}
