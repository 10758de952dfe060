/** The edges of accounts and the ledger, and of the promises 23 to 28. */
final class AccountEdges {
    private static final int MIN = Integer.MIN_VALUE;
    private static final int MAX = Integer.MAX_VALUE;
    private static final String LARGEST = Edge.rows(8, "2".repeat(12));

    private AccountEdges() {
    }

    static void run() {
        revenue();
        accountOfCustomer();
        latestPayments();
        entries();
        orderOfPayments();
        performance();
        performanceThrows();
        account();
        soldShare();
        meanAmount();
        count();
        ledger();
        ledgerThrows();
    }

    // Description

    private static void revenue() {
        Edge.sentence("Description", "The revenue of a performance is the sum of the amounts of all its tickets plus "
                + "what it kept.");
        Edge.Steps two = Edge.at(500, 600).then(b -> b.setPrice(2, 1001));
        Edge.Steps sold = two.then(Edge.sold(0, 3, 1)).then(Edge.sold(1, 1, 2));
        Edge.asked(0, two, b -> b.performance(0, 2));
        Edge.asked(0, two.then(b -> b.hold(0, 3, 1, 0, 0, 9)), b -> b.performance(0, 2));
        Edge.asked(3003, sold, b -> b.performance(0, 2));
        Edge.asked(1001, sold, b -> b.performance(1, 2));
        Edge.asked(3003, sold.then(b -> b.setPrice(2, 5)), b -> b.performance(0, 2));
        Edge.asked(2002, sold.then(b -> b.refund(0, 0)), b -> b.performance(0, 2));
        Edge.Steps late = sold.then(b -> b.advance(381));
        Edge.asked(2002 + 501, late.then(b -> b.refund(0, 0)), b -> b.performance(0, 2));
        Edge.asked(501 + 1001, late.then(b -> b.refund(0, 0)).then(b -> b.refund(1, 0)), b -> b.performance(0, 2));
        Edge.asked(1001, late.then(b -> b.refund(0, 0)), b -> b.performance(1, 2));
        Edge.asked(501, late.then(b -> b.refund(0, 0)).then(b -> b.exchange(1, 0, 1)), b -> b.performance(0, 2));
        Edge.asked(3003, late.then(b -> b.exchange(1, 0, 1)), b -> b.performance(1, 2));
        Edge.asked(1001 + 10, sold.then(b -> b.setPrice(2, 5)).then(b -> b.exchange(1, 0, 0)),
                b -> b.performance(0, 2));
        Edge.asked(2400000, Edge.hall(LARGEST).then(b -> b.addPerformance(9, 300)).then(b -> b.setPrice(2, 100000))
                .then(Edge.sold(0, 1, 8)), b -> b.performance(0, 2));
    }

    private static void accountOfCustomer() {
        Edge.sentence("Description", "The account of a customer is what the customer paid minus what the customer got "
                + "back.");
        Edge.Steps sold = Edge.at(500, 600).then(b -> b.setPrice(2, 1001)).then(b -> b.hold(9, 3, 1, 0, 0, 9));
        Edge.Steps paid = sold.then(b -> b.confirm(0));
        Edge.asked(0, sold, b -> b.account(9));
        Edge.asked(2002, paid, b -> b.account(9));
        Edge.asked(0, paid, b -> b.account(0));
        Edge.asked(0, paid.then(b -> b.refund(0, 0)).then(b -> b.refund(0, 1)), b -> b.account(9));
        Edge.asked(2002 - 500, paid.then(b -> b.advance(381)).then(b -> b.refund(0, 0)), b -> b.account(9));
        Edge.asked(1001, paid.then(b -> b.setPrice(2, 0)).then(b -> b.exchange(0, 0, 0)), b -> b.account(9));
        Edge.asked(2003, paid.then(b -> b.setPrice(2, 1002)).then(b -> b.exchange(0, 1, 1)), b -> b.account(9));
        Edge.asked(0, sold.then(b -> b.advance(9)), b -> b.account(9));
        Edge.Steps two = paid.then(b -> b.hold(9, 1, 2, 0, 0, 9)).then(b -> b.hold(0, 1, 1, 0, 0, 9))
                .then(b -> b.confirm(1)).then(b -> b.confirm(2));
        Edge.asked(4004, two, b -> b.account(9));
        Edge.asked(1001, two, b -> b.account(0));
    }

    /** A number of payments: the amounts 1, -1, 2, -2 and so on, of the customers 0 to 9 in turn. */
    private static Edge.Steps payments(int n) {
        return Edge.open("2", 1000).then(b -> {
            for (int i = 0; i < n; i++) {
                if (i % 2 == 0) {
                    b.setPrice(2, i / 2 + 1);
                    b.hold(i / 2 % 10, 1, 1, 0, 0, 9);
                    b.confirm(i / 2);
                } else {
                    b.refund(i / 2, 0);
                }
            }
        });
    }

    private static void latestPayments() {
        Edge.sentence("Description", "The ledger contains the latest 40 payments.");
        for (int n : new int[] {0, 1, 2, 39, 40, 41, 42, 79, 80, 81, 120, 121}) {
            Edge.Steps steps = payments(n);
            int kept = Math.min(n, 40);
            Edge.due(kept, steps, b -> b.ledger(-1, 0));
            for (int i = 0; i < kept; i++) {
                int index = i;
                int payment = n - kept + i;
                Edge.due(payment % 2 == 0 ? 1 : 3, steps, b -> b.ledger(index, 0));
                Edge.due(payment / 2 % 10, steps, b -> b.ledger(index, 1));
                Edge.due(payment % 2 == 0 ? payment / 2 + 1 : -payment / 2 - 1, steps, b -> b.ledger(index, 2));
            }
            Edge.range(steps, b -> b.ledger(kept, 0));
        }
        Edge.asked(5, payments(41).then(Box::undo), b -> b.ledger(8, 2));
        Edge.asked(1, payments(41).then(Box::undo), b -> b.ledger(0, 2));
        Edge.asked(40, payments(41).then(Box::undo), b -> b.ledger(-1, 2));
        Edge.alikeNow(payments(40).then(b -> b.setPrice(2, 21)).then(b -> b.hold(0, 1, 1, 0, 0, 9)),
                payments(41).then(Box::undo));
        Edge.Steps six = Edge.at(500, 500, 500, 500, 500, 500).then(b -> {
            for (int i = 0; i < 7; i++) {
                b.setPrice(2, 10 * i);
                b.hold(i, 63, 1, 0, 0, 60);
                b.confirm(i);
            }
        });
        Edge.asked(40, six, b -> b.ledger(-1, 0));
        Edge.asked(0, six, b -> b.ledger(3, 2));
        Edge.asked(9, six, b -> b.ledger(4, 2));
        Edge.asked(54, six, b -> b.ledger(39, 2));
    }

    private static void entries() {
        Edge.sentence("Description", "An entry has a kind, a customer and an amount: 1 a ticket was paid, 2 the "
                + "difference of an exchange, which can be negative or 0, 3 a refund, as a negative amount or 0.");
        Edge.Steps sold = Edge.at(500).then(b -> b.hold(7, 1, 1, 0, 0, 9)).then(b -> b.confirm(0));
        entry(sold, 0, 1, 7, 3000);
        entry(sold.then(b -> b.exchange(0, 0, 0)), 1, 2, 7, 0);
        entry(sold.then(b -> b.setPrice(2, 3001)).then(b -> b.exchange(0, 0, 0)), 1, 2, 7, 1);
        entry(sold.then(b -> b.setPrice(2, 2999)).then(b -> b.exchange(0, 0, 0)), 1, 2, 7, -1);
        entry(sold.then(b -> b.refund(0, 0)), 1, 3, 7, -3000);
        entry(sold.then(b -> b.advance(499)).then(b -> b.refund(0, 0)), 1, 3, 7, -1500);
        Edge.Steps gift = Edge.at(500).then(b -> b.setPrice(2, 0)).then(b -> b.hold(9, 1, 1, 0, 0, 9))
                .then(b -> b.confirm(0));
        entry(gift, 0, 1, 9, 0);
        entry(gift.then(b -> b.refund(0, 0)), 1, 3, 9, 0);
        Edge.Steps cent = Edge.at(500).then(b -> b.setPrice(2, 1)).then(b -> b.hold(0, 1, 1, 0, 0, 9))
                .then(b -> b.confirm(0));
        entry(cent.then(b -> b.advance(499)).then(b -> b.refund(0, 0)), 1, 3, 0, 0);
        Edge.asked(0, Edge.at(500).then(b -> b.hold(9, 1, 1, 0, 0, 9)).then(b -> b.release(0)), b -> b.ledger(-1, 0));
        Edge.asked(1, sold.then(b -> Edge.outcome(b, c -> c.exchange(0, 0, 1))), b -> b.ledger(-1, 0));
    }

    private static void entry(Edge.Steps steps, int index, int kind, int customer, int amount) {
        Edge.asked(index + 1, steps, b -> b.ledger(-1, 0));
        Edge.asked(kind, steps, b -> b.ledger(index, 0));
        Edge.asked(customer, steps, b -> b.ledger(index, 1));
        Edge.asked(amount, steps, b -> b.ledger(index, 2));
    }

    private static void orderOfPayments() {
        Edge.sentence("Description", "The tickets of an order are paid in ascending order of the performances.");
        Edge.Steps six = Edge.hall("2").then(b -> b.setPrice(2, 100)).then(b -> {
            for (int factor = 60; factor >= 10; factor -= 10) {
                b.addPerformance(500 + factor, factor);
            }
        });
        int[] all = {54, 45, 36, 27, 18, 9};
        for (int i = 0; i < 6; i++) {
            int n = i;
            Edge.asked(all[n], six.then(Edge.sold(0, 63, 1)), b -> b.ledger(n, 2));
        }
        Edge.asked(60, six.then(Edge.sold(0, 33, 1)), b -> b.ledger(0, 2));
        Edge.asked(10, six.then(Edge.sold(0, 33, 1)), b -> b.ledger(1, 2));
        Edge.asked(2, six.then(Edge.sold(0, 33, 1)), b -> b.ledger(-1, 2));
    }

    // Promises 23 to 28

    private static void performance() {
        Edge.sentence("Promise 23", "- `what`: 0 for its start, 1 for its factor, 2 for its revenue, 3 for its free "
                + "seats, 4 for its held seats, 5 for its sold seats, 6 for its blocked seats, 7 for the sum of the "
                + "prices of all its free seats");
        Edge.Steps steps = Edge.hall("1234.wc2").then(b -> b.addPerformance(77, 10)).then(b -> b.addPerformance(900, 33))
                .then(b -> b.setPrice(1, 101)).then(b -> b.block(1, 0, 0, true)).then(Edge.sold(0, 2, 2))
                .then(b -> b.hold(0, 2, 2, 0, 1, 9));
        int[] first = {77, 10, 0, 7, 0, 0, 0, 10 + 300 + 200 + 100 + 10 + 10 + 300};
        for (int what = 0; what <= 7; what++) {
            int w = what;
            Edge.asked(first[w], steps, b -> b.performance(0, w));
        }
        Edge.asked(900, steps, b -> b.performance(1, 0));
        Edge.asked(33, steps, b -> b.performance(1, 1));
        Edge.asked(2, steps, b -> b.performance(1, 4));
        Edge.asked(2, steps, b -> b.performance(1, 5));
        Edge.asked(1, steps, b -> b.performance(1, 6));
        Edge.asked(2, steps, b -> b.performance(1, 3));
        for (int what = 2; what <= 7; what++) {
            int w = what;
            Edge.asked(0, Edge.open("..", 9), b -> b.performance(0, w));
        }
        Edge.asked(96, Edge.open(LARGEST, 9), b -> b.performance(0, 3));
        Edge.asked(96 * 3000, Edge.open(LARGEST, 9), b -> b.performance(0, 7));
        Edge.asked(96 * 300000, Edge.hall(LARGEST).then(b -> b.addPerformance(100000, 300))
                .then(b -> b.setPrice(2, 100000)), b -> b.performance(0, 7));
        Edge.asked(0, Edge.open("2", 9).then(b -> b.block(0, 0, 0, true)), b -> b.performance(0, 7));
        Edge.asked(1, Edge.open("2", 9).then(b -> b.block(0, 0, 0, true)), b -> b.performance(0, 6));
        Edge.asked(0, Edge.open("2", 9).then(b -> b.setPrice(2, 0)), b -> b.performance(0, 7));
    }

    private static void performanceThrows() {
        Edge.sentence("Promise 23", "Throws `IndexOutOfBoundsException` if there is no such performance");
        for (int performance : new int[] {-1, 2, 5, 6, 32, MIN, MAX}) {
            Edge.range(Edge.at(9, 9), b -> b.performance(performance, 0));
            Edge.range(Edge.at(9, 9), b -> b.performance(performance, 8));
        }
        Edge.range(Edge.NEW, b -> b.performance(0, 0));
        Edge.asked(9, Edge.at(9).then(b -> b.advance(500)), b -> b.performance(0, 0));
        Edge.sentence("Promise 23", "Throws `IllegalArgumentException` if what is out of range");
        for (int what : new int[] {-1, 8, 9, MIN, MAX}) {
            Edge.argument(Edge.at(9, 9), b -> b.performance(1, what));
        }
    }

    private static void account() {
        Edge.sentence("Promise 24", "Returns the account of a customer.");
        for (int customer = 0; customer <= 9; customer++) {
            int c = customer;
            Edge.Steps sold = Edge.at(9).then(b -> b.hold(c, 1, 1, 0, 0, 9)).then(b -> b.confirm(0));
            Edge.asked(0, Edge.NEW, b -> b.account(c));
            Edge.asked(3000, sold, b -> b.account(c));
            Edge.asked(0, sold, b -> b.account((c + 1) % 10));
        }
        Edge.Steps most = Edge.hall(LARGEST).then(Edge.times(6, b -> b.addPerformance(9, 300)))
                .then(b -> b.setPrice(2, 100000)).then(b -> {
                    for (int i = 0; i < 8; i++) {
                        b.hold(9, 63, 8, 0, 0, 60);
                        b.confirm(i);
                    }
                });
        Edge.asked(8 * 6 * 8 * 270000, most, b -> b.account(9));
        Edge.sentence("Promise 24", "Throws `IndexOutOfBoundsException` if there is no such customer");
        for (int customer : new int[] {-1, 10, 11, MIN, MAX}) {
            Edge.range(Edge.NEW, b -> b.account(customer));
        }
    }

    private static void soldShare() {
        Edge.sentence("Promise 25", "Returns the share of the seats of a performance that are sold: their number "
                + "divided by the number of all seats, both converted to double.");
        Edge.asked(0.0, Edge.at(9), b -> b.soldShare(0));
        Edge.asked(0.0, Edge.open("2", 9).then(b -> b.hold(0, 1, 1, 0, 0, 9)), b -> b.soldShare(0));
        Edge.asked(0.0, Edge.open("2", 9).then(b -> b.block(0, 0, 0, true)), b -> b.soldShare(0));
        Edge.asked(1.0, Edge.open("2", 9).then(Edge.sold(0, 1, 1)), b -> b.soldShare(0));
        Edge.asked(1.0 / 3.0, Edge.open("2wc..", 9).then(Edge.sold(0, 1, 1)), b -> b.soldShare(0));
        Edge.asked(0.0, Edge.open("2wc..", 9, 9).then(Edge.sold(0, 1, 1)), b -> b.soldShare(1));
        Edge.asked(2.0 / 3.0, Edge.open("222", 9).then(Edge.sold(0, 1, 2)), b -> b.soldShare(0));
        Edge.asked(1.0 / 96.0, Edge.open(LARGEST, 9).then(Edge.sold(0, 1, 1)), b -> b.soldShare(0));
        Edge.asked(7.0 / 96.0, Edge.open(LARGEST, 9).then(Edge.sold(0, 1, 7)), b -> b.soldShare(0));
        Edge.sentence("Promise 25", "Throws `IndexOutOfBoundsException` if there is no such performance");
        for (int performance : new int[] {-1, 1, 6, MIN, MAX}) {
            Edge.range(Edge.at(9), b -> b.soldShare(performance));
            Edge.range(Edge.open(".", 9), b -> b.soldShare(performance));
        }
        Edge.range(Edge.NEW, b -> b.soldShare(0));
        Edge.sentence("Promise 25", "Throws `ArithmeticException` if the hall has no seats");
        Edge.division(Edge.open(".", 9), b -> b.soldShare(0));
        Edge.division(Edge.open("../..", 9, 9), b -> b.soldShare(1));
        Edge.asked(0.0, Edge.open("../.w", 9), b -> b.soldShare(0));
    }

    private static void meanAmount() {
        Edge.sentence("Promise 26", "Returns the mean amount of a sold seat: the sum of the amounts of all tickets "
                + "divided by the number of all their seats, both converted to float.");
        Edge.Steps two = Edge.open("1222", 500, 600);
        Edge.asked(3000f, two.then(b -> b.hold(0, 3, 1, 2, 0, 9)).then(b -> b.confirm(0)), Box::meanAmount);
        Edge.asked(0f, two.then(b -> b.setPrice(2, 0)).then(b -> b.hold(0, 1, 1, 2, 0, 9)).then(b -> b.confirm(0)),
                Box::meanAmount);
        Edge.Steps mixed = two.then(b -> b.hold(0, 1, 1, 1, 0, 9)).then(b -> b.confirm(0))
                .then(b -> b.hold(0, 1, 2, 2, 0, 9)).then(b -> b.confirm(1));
        Edge.asked(10000f / 3f, mixed, Box::meanAmount);
        Edge.asked(3000f, mixed.then(b -> b.refund(0, 0)), Box::meanAmount);
        Edge.asked(4000f, mixed.then(b -> b.refund(1, 0)), Box::meanAmount);
        Edge.asked(10000f / 3f, mixed.then(b -> b.setPrice(2, 0)), Box::meanAmount);
        Edge.Steps large = Edge.hall(LARGEST).then(Edge.times(6, b -> b.addPerformance(9, 100)))
                .then(b -> b.setPrice(2, 99999)).then(Edge.sold(0, 63, 8)).then(Edge.sold(1, 63, 8))
                .then(Edge.sold(2, 63, 8));
        int amount = 8 * 99999 - 8 * 99999 / 10;
        Edge.asked((float) (18 * amount) / (float) (18 * 8), large, Box::meanAmount);
        Edge.sentence("Promise 26", "Throws `ArithmeticException` if there are no tickets");
        Edge.division(Edge.NEW, Box::meanAmount);
        Edge.division(two.then(b -> b.hold(0, 1, 1, 0, 0, 9)), Box::meanAmount);
        Edge.division(two.then(Edge.sold(0, 1, 1)).then(b -> b.refund(0, 0)), Box::meanAmount);
        Edge.division(two.then(b -> b.advance(400)).then(Edge.sold(0, 1, 1)).then(b -> b.refund(0, 0)),
                Box::meanAmount);
        Edge.division(two.then(Edge.sold(0, 1, 1)).then(Box::undo), Box::meanAmount);
        Edge.division(two.then(Edge.sold(0, 1, 1)).then(Edge.hall("1")), Box::meanAmount);
    }

    private static void count() {
        Edge.sentence("Promise 27", "- `what`: 0 for the time, 1 for the performances, 2 for the holds, 3 for the orders "
                + "with tickets, 4 for the tickets, 5 for all holds that were made, 6 for the seats of the hall, 7 for "
                + "the commands that were carried out and not undone");
        Edge.Steps steps = Edge.open("222222/2222.w", 500, 600, 700).then(b -> b.hold(0, 7, 1, 0, 0, 60))
                .then(b -> b.hold(0, 3, 1, 0, 0, 60)).then(b -> b.hold(0, 1, 1, 0, 0, 60))
                .then(b -> b.hold(0, 1, 1, 0, 0, 60)).then(b -> b.advance(12)).then(b -> b.confirm(0))
                .then(b -> b.confirm(1)).then(b -> b.release(3)).then(b -> b.refund(0, 1));
        int[] due = {12, 3, 1, 2, 4, 4, 11, 12};
        int[] undone = {12, 3, 1, 2, 5, 4, 11, 11};
        int[] anew = {0, 0, 0, 0, 0, 0, 1, 0};
        for (int what = 0; what <= 7; what++) {
            int w = what;
            Edge.asked(due[w], steps, b -> b.count(w));
            Edge.asked(undone[w], steps.then(Box::undo), b -> b.count(w));
            Edge.asked(anew[w], steps.then(Edge.hall("1")), b -> b.count(w));
            Edge.asked(due[w], steps.then(b -> Edge.outcome(b, c -> c.refund(0, 1))), b -> b.count(w));
            Edge.asked(w == 6 ? 18 : 0, Edge.NEW, b -> b.count(w));
        }
        Edge.asked(1, steps.then(b -> b.refund(1, 0)).then(b -> b.refund(1, 1)), b -> b.count(3));
        Edge.due(511, Edge.times(511, b -> b.setRule(true)), b -> b.count(7));
        Edge.due(0, Edge.hall("..."), b -> b.count(6));
        Edge.due(96, Edge.hall(LARGEST), b -> b.count(6));
        Edge.sentence("Promise 27", "Throws `IllegalArgumentException` if what is out of range");
        for (int what : new int[] {-1, 8, 9, MIN, MAX}) {
            Edge.argument(Edge.NEW, b -> b.count(what));
            Edge.argument(steps, b -> b.count(what));
        }
    }

    private static void ledger() {
        Edge.sentence("Promise 28", "Returns a column of an entry of the ledger, or the number of its entries.");
        Edge.asked(0, Edge.NEW, b -> b.ledger(-1, 0));
        Edge.asked(1, Edge.at(9).then(Edge.sold(0, 1, 1)), b -> b.ledger(-1, 0));
        Edge.asked(0, Edge.at(9).then(Edge.sold(0, 1, 1)).then(Box::undo), b -> b.ledger(-1, 0));
        Edge.asked(6, Edge.at(9, 9, 9, 9, 9, 9).then(Edge.sold(0, 63, 1)), b -> b.ledger(-1, 0));
        Edge.sentence("Promise 28", "- `index`: the index, from 0 for the oldest entry that is kept, or -1 for the number "
                + "of entries");
        Edge.due(1, payments(40), b -> b.ledger(0, 2));
        Edge.due(-20, payments(40), b -> b.ledger(39, 2));
        Edge.due(-1, payments(41), b -> b.ledger(0, 2));
        Edge.due(21, payments(41), b -> b.ledger(39, 2));
        Edge.sentence("Promise 28", "- `column`: 0 for the kind, 1 for the customer, 2 for the amount; it does not matter "
                + "for the number of entries");
        for (int column : new int[] {-1, 0, 1, 2, 3, MIN, MAX}) {
            Edge.asked(0, Edge.NEW, b -> b.ledger(-1, column));
            Edge.asked(2, payments(2), b -> b.ledger(-1, column));
            Edge.due(40, payments(44), b -> b.ledger(-1, column));
        }
        Edge.asked(3, payments(2), b -> b.ledger(1, 0));
        Edge.asked(0, payments(2), b -> b.ledger(1, 1));
        Edge.asked(-1, payments(2), b -> b.ledger(1, 2));
    }

    private static void ledgerThrows() {
        Edge.sentence("Promise 28", "Throws `IndexOutOfBoundsException` if index is neither -1 nor that of an entry, or if "
                + "there is no such column although it matters");
        for (int column : new int[] {-1, 0, 3, MIN, MAX}) {
            Edge.range(Edge.NEW, b -> b.ledger(0, column));
            Edge.range(payments(2), b -> b.ledger(2, column));
            Edge.range(payments(2), b -> b.ledger(-2, column));
            Edge.range(payments(41), b -> b.ledger(40, column));
            Edge.range(payments(2), b -> b.ledger(MIN, column));
            Edge.range(payments(2), b -> b.ledger(MAX, column));
        }
        for (int column : new int[] {-1, 3, 4, MIN, MAX}) {
            Edge.range(payments(2), b -> b.ledger(0, column));
            Edge.range(payments(2), b -> b.ledger(1, column));
            Edge.range(payments(41), b -> b.ledger(39, column));
        }
        Edge.range(payments(2).then(Box::undo), b -> b.ledger(1, 0));
        Edge.range(payments(2).then(Edge.hall("1")), b -> b.ledger(0, 0));
    }
}
