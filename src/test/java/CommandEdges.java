/** The edges of reasons, commands and exceptions, and of the promises 29 to 33. */
final class CommandEdges {
    /** A row of seats with an accessible place and a companion seat, three performances, and all kinds of commands. */
    private static final Edge.Steps RICH = Edge.open("22222w/2.c441", 500, 600, 700).then(b -> b.setPrice(4, 77))
            .then(b -> b.hold(0, 7, 2, 2, 0, 60)).then(b -> b.hold(1, 3, 1, 0, 0, 60)).then(b -> b.confirm(0))
            .then(b -> b.snapshot()).then(b -> b.block(2, 1, 0, true)).then(b -> b.advance(30))
            .then(b -> b.hold(2, 1, 1, 4, 0, 9)).then(b -> b.refund(0, 1)).then(b -> b.setFocus(0))
            .then(Edge.type("11/x")).then(b -> Edge.outcome(b, Box::load)).then(Edge.type("1."));

    private CommandEdges() {
    }

    static void run() {
        reasons();
        severalReasons();
        commands();
        noCommands();
        eightCommands();
        unchanged();
        unchangedToo();
        orderOfExceptions();
        reason();
        undo();
        undoOfEachCommand();
        undoAnswers();
        replay();
        snapshot();
        restore();
        afterRestore();
    }

    // Description

    private static void reasons() {
        Edge.sentence("Description", "When a method throws IllegalStateException, the reason is kept: 1 no block fits, 2 "
                + "a limit of numbers is reached, 3 a performance has started, 4 the seat is not free, 5 there is no "
                + "such ticket, 6 there is already a ticket for this performance, 7 there is nothing to do.");
        Edge.Steps two = Edge.at(500, 600).then(Edge.sold(0, 3, 1));
        Edge.refused(1, two, b -> b.hold(0, 1, 8, 0, 0, 9));
        Edge.refused(1, Edge.open("2", 500).then(Edge.sold(0, 1, 1)), b -> b.exchange(0, 0, 0));
        Edge.refused(2, Edge.type("1".repeat(103)), b -> b.append('1'));
        Edge.refused(2, Edge.times(6, Edge.at(9)), b -> b.addPerformance(9, 100));
        Edge.refused(2, Edge.until(100000), b -> b.advance(1));
        Edge.refused(2, two.then(Edge.times(12, b -> b.hold(0, 1, 1, 0, 0, 9))), b -> b.hold(0, 1, 1, 0, 0, 9));
        Edge.refused(3, two.then(b -> b.advance(500)), b -> b.hold(0, 1, 1, 0, 0, 9));
        Edge.refused(3, two.then(b -> b.advance(480)).then(b -> b.hold(0, 1, 1, 0, 0, 60)).then(b -> b.advance(20)),
                b -> b.confirm(1));
        Edge.refused(3, two.then(b -> b.advance(500)), b -> b.exchange(0, 0, 0));
        Edge.refused(3, two.then(b -> b.advance(500)), b -> b.refund(0, 0));
        Edge.refused(4, two, b -> b.block(0, 1, 2, true));
        Edge.refused(5, two, b -> b.exchange(1, 0, 0));
        Edge.refused(5, two, b -> b.refund(0, 2));
        Edge.refused(6, two, b -> b.exchange(0, 0, 1));
        Edge.refused(7, Edge.NEW, Box::undo);
        Edge.refused(7, two, Box::restore);
    }

    private static void severalReasons() {
        Edge.sentence("Description", "If several reasons apply, the one that is listed first with the method is kept.");
        Edge.Steps held = Edge.open("2".repeat(12) + "/" + ".".repeat(12), 500, 600).then(b -> b.advance(480))
                .then(Edge.times(12, b -> b.hold(0, 1, 1, 0, 0, 60)));
        Edge.refused(1, held, b -> b.hold(0, 1, 1, 0, 0, 9));
        Edge.refused(2, held, b -> b.hold(0, 2, 1, 0, 0, 9));
        Edge.refused(3, held.then(b -> b.advance(20)), b -> b.hold(0, 1, 1, 0, 0, 9));
        Edge.refused(3, held.then(b -> b.advance(20)), b -> b.hold(0, 3, 1, 0, 0, 9));
        Edge.Steps sold = Edge.open("2", 500, 600).then(Edge.sold(0, 3, 1));
        Edge.refused(6, sold, b -> b.exchange(0, 0, 1));
        Edge.refused(3, sold.then(b -> b.advance(500)), b -> b.exchange(0, 0, 1));
        Edge.refused(3, sold.then(b -> b.advance(500)), b -> b.exchange(0, 1, 0));
        Edge.refused(5, sold.then(b -> b.refund(0, 0)).then(b -> b.advance(500)), b -> b.exchange(0, 0, 1));
        Edge.refused(5, sold.then(b -> b.refund(0, 0)).then(b -> b.advance(500)), b -> b.refund(0, 0));
        Edge.Steps orders = Edge.open("2".repeat(12) + "/" + "2".repeat(12), 50, 600).then(b -> {
            for (int i = 0; i < 20; i++) {
                b.hold(0, 2, 1, 0, 0, 9);
                b.confirm(i);
            }
        }).then(b -> b.hold(0, 1, 1, 0, 0, 60));
        Edge.refused(2, orders, b -> b.confirm(20));
        Edge.refused(3, orders.then(b -> b.advance(50)), b -> b.confirm(20));
    }

    private static void counted(int due, Edge.Steps steps, Edge.Steps command) {
        Edge.asked(due, steps.then(command), b -> b.count(7));
    }

    private static void commands() {
        Edge.sentence("Description", "The commands are the successful calls of addPerformance, setPrice, setFocus, "
                + "setRule, block, advance, hold, release, confirm, exchange and refund since the last successful call "
                + "of load, or since the object was created.");
        Edge.Steps three = Edge.at(500).then(Edge.sold(0, 1, 1));
        Edge.Steps four = three.then(b -> b.hold(0, 1, 1, 0, 0, 9));
        counted(4, three, b -> b.addPerformance(500, 100));
        counted(4, three, b -> b.setPrice(2, 3000));
        counted(4, three, b -> b.setFocus(1));
        counted(4, three, b -> b.setRule(true));
        counted(4, three, b -> b.block(0, 0, 0, false));
        counted(4, three, b -> b.advance(1));
        counted(4, three, b -> b.hold(0, 1, 1, 0, 0, 9));
        counted(5, four, b -> b.release(1));
        counted(5, four, b -> b.confirm(1));
        counted(4, three, b -> b.exchange(0, 0, 0));
        counted(4, three, b -> b.refund(0, 0));
        counted(0, three, Edge.hall("1"));
        counted(1, three.then(Edge.hall("1")), b -> b.setRule(true));
        counted(2, three, Box::undo);
        counted(3, Edge.NEW, three);
    }

    private static void noCommands() {
        Edge.Steps three = Edge.at(500).then(Edge.sold(0, 1, 1));
        counted(3, three, b -> b.append('1'));
        counted(3, three, Box::snapshot);
        counted(3, three, Box::isReplayed);
        counted(3, three, b -> b.best(1, 1, 0, 0, 0));
        Edge.Ask[] refused = {b -> b.addPerformance(0, 100), b -> b.setPrice(0, 1), b -> b.setFocus(3),
            b -> b.block(0, 1, 2, true), b -> b.advance(0), b -> b.hold(0, 1, 8, 0, 0, 9), b -> b.release(0),
            b -> b.confirm(0), b -> b.exchange(0, 0, 1), b -> b.refund(1, 0), Box::restore};
        for (Edge.Ask call : refused) {
            counted(3, three, b -> Edge.outcome(b, call));
        }
        counted(3, three, Edge.type("x").then(b -> Edge.outcome(b, Box::load)));
        counted(3, three.then(Box::snapshot).then(b -> b.advance(1)), Box::restore);
        counted(3, three.then(Box::snapshot).then(Edge.hall("1")), Box::restore);
    }

    /** Sets the price of the category 1 to the numbers from one to another. */
    private static Edge.Steps prices(int from, int to) {
        return b -> {
            for (int i = from; i <= to; i++) {
                b.setPrice(1, i);
            }
        };
    }

    private static void eightCommands() {
        Edge.sentence("Description", "Whenever a command is carried out, only the latest 8 commands can be undone from "
                + "then on.");
        for (int n : new int[] {0, 1, 7, 8, 9, 10, 15, 16, 17, 24, 25}) {
            for (int undone = 0; undone <= Math.min(n, 8); undone++) {
                for (int more : new int[] {0, 1, 2, 7, 8, 9}) {
                    eightCommands(n, undone, more);
                }
            }
        }
    }

    /** After n commands, some of which are undone, and more commands. */
    private static void eightCommands(int n, int undone, int more) {
        Edge.Steps steps = prices(1, n).then(Edge.times(undone, Box::undo)).then(prices(1001, 1000 + more));
        int can = Math.min(8, Math.min(n, 8) - undone + more);
        for (int i = 1; i <= can; i++) {
            Edge.due(can - i, steps.then(Edge.times(i - 1, Box::undo)), Box::undo);
        }
        Edge.Steps end = steps.then(Edge.times(can, Box::undo));
        Edge.due("IllegalStateException", end, Box::undo);
        Edge.due(7, end.then(b -> Edge.outcome(b, Box::undo)), Box::reason);
        int left = n - undone + more - can;
        int kept = n - undone;
        Edge.due(left, end, b -> b.count(7));
        Edge.due(left == 0 ? 4000 : left <= kept ? left : 1000 + left - kept, end, b -> b.setPrice(1, 0));
    }

    private static void unchanged() {
        Edge.sentence("Description", "A call that throws an exception leaves the state unchanged, unless its description "
                + "says otherwise, but for the reason.");
        Edge.argument(RICH, b -> b.append((char) 31));
        Edge.refused(2, RICH.then(Edge.type("1".repeat(101))), b -> b.append('1'));
        Edge.malformed(4, RICH, "1/");
        Edge.tooLarge(RICH, "1".repeat(20));
        Edge.range(RICH, b -> b.place(2, 0, 0));
        Edge.argument(RICH, b -> b.place(0, 0, 3));
        Edge.argument(RICH, b -> b.addPerformance(30, 100));
        Edge.refused(2, RICH.then(Edge.at(900, 900, 900)), b -> b.addPerformance(900, 100));
        Edge.range(RICH, b -> b.setPrice(5, 1));
        Edge.argument(RICH, b -> b.setPrice(4, 100001));
        Edge.range(RICH, b -> b.setFocus(2));
        Edge.range(RICH, b -> b.block(3, 0, 0, true));
        Edge.argument(RICH, b -> b.block(0, 1, 1, true));
        Edge.refused(4, RICH, b -> b.block(0, 0, 2, true));
        Edge.refused(4, RICH, b -> b.block(1, 1, 0, false));
        Edge.range(RICH, b -> b.state(0, 0, 6));
        Edge.range(RICH, b -> b.holder(0, 0, 6));
        Edge.missing(RICH, b -> b.holder(0, 1, 5));
        Edge.argument(RICH, b -> b.advance(10001));
        Edge.refused(2, RICH.then(Edge.until(90000)), b -> b.advance(10000));
        Edge.range(RICH, b -> b.blockCount(8, 1, 0, 0));
        Edge.argument(RICH, b -> b.blockCount(7, 9, 0, 0));
        Edge.range(RICH, b -> b.best(0, 1, 0, 0, 0));
        Edge.argument(RICH, b -> b.best(1, 1, 0, 0, 5));
        Edge.missing(RICH, b -> b.best(7, 8, 0, 0, 0));
    }

    private static void unchangedToo() {
        Edge.range(RICH, b -> b.hold(10, 1, 1, 0, 0, 9));
        Edge.argument(RICH, b -> b.hold(0, 1, 1, 0, 0, 61));
        Edge.refused(3, RICH.then(b -> b.advance(480)), b -> b.hold(0, 1, 1, 0, 0, 9));
        Edge.refused(1, RICH, b -> b.hold(0, 7, 8, 0, 0, 9));
        Edge.missing(RICH, b -> b.release(0));
        Edge.missing(RICH, b -> b.confirm(3));
        Edge.refused(3, RICH.then(b -> b.advance(440)).then(b -> b.hold(0, 1, 1, 0, 0, 60)).then(b -> b.advance(40)),
                b -> b.confirm(3));
        Edge.missing(RICH, b -> b.heldBy(0, 0));
        Edge.argument(RICH, b -> b.heldBy(1, 6));
        Edge.missing(RICH, b -> b.ticket(0, 1, 0));
        Edge.argument(RICH, b -> b.ticket(0, 0, 5));
        Edge.range(RICH, b -> b.exchange(0, 0, 3));
        Edge.refused(5, RICH, b -> b.exchange(0, 1, 0));
        Edge.refused(3, RICH.then(b -> b.advance(470)), b -> b.exchange(0, 0, 1));
        Edge.refused(6, RICH, b -> b.exchange(0, 0, 2));
        Edge.refused(1, RICH.then(Edge.times(3, b -> b.hold(0, 1, 1, 0, 0, 9))).then(b -> b.hold(0, 1, 1, 4, 0, 9)),
                b -> b.exchange(0, 0, 0));
        Edge.refused(5, RICH, b -> b.refund(0, 1));
        Edge.refused(3, RICH.then(b -> b.advance(470)), b -> b.refund(0, 0));
        Edge.range(RICH, b -> b.performance(3, 0));
        Edge.argument(RICH, b -> b.performance(2, 8));
        Edge.range(RICH, b -> b.account(10));
        Edge.range(RICH, b -> b.soldShare(3));
        Edge.division(RICH.then(b -> b.refund(0, 0)).then(b -> b.refund(0, 2)), Box::meanAmount);
        Edge.argument(RICH, b -> b.count(8));
        Edge.range(RICH, b -> b.ledger(4, 0));
        Edge.refused(7, RICH.then(Edge.times(8, Box::undo)), Box::undo);
    }

    private static void orderOfExceptions() {
        Edge.sentence("Description", "If a method can throw several exceptions, they are checked in the order in which "
                + "they are listed.");
        Edge.argument(Edge.type("1".repeat(103)), b -> b.append((char) 127));
        Edge.malformed(18, Edge.NEW, Edge.rows(9, "1") + "/");
        Edge.malformed(13, Edge.NEW, "1".repeat(13) + "0");
        Edge.range(Edge.NEW, b -> b.place(3, 0, 3));
        Edge.argument(Edge.times(6, Edge.at(9)), b -> b.addPerformance(0, 100));
        Edge.range(Edge.NEW, b -> b.setPrice(0, -1));
        Edge.range(Edge.open(".", 9), b -> b.block(1, 0, 0, true));
        Edge.range(Edge.open("2", 9).then(Edge.sold(0, 1, 1)), b -> b.block(0, 1, 0, true));
        Edge.range(Edge.at(9), b -> b.holder(0, 3, 0));
        Edge.argument(Edge.until(100000), b -> b.advance(10001));
        Edge.range(Edge.at(9), b -> b.blockCount(2, 9, 5, 2));
        Edge.range(Edge.at(9), b -> b.best(2, 9, 5, 2, 5));
        Edge.argument(Edge.open(".", 9), b -> b.best(1, 1, 0, 0, 5));
        Edge.range(Edge.at(9).then(b -> b.advance(9)), b -> b.hold(10, 1, 9, 0, 0, 0));
        Edge.range(Edge.at(9).then(b -> b.advance(9)), b -> b.hold(0, 2, 9, 0, 0, 0));
        Edge.argument(Edge.at(9).then(b -> b.advance(9)), b -> b.hold(0, 1, 9, 0, 0, 0));
        Edge.missing(Edge.at(9), b -> b.heldBy(0, 6));
        Edge.missing(Edge.at(9), b -> b.ticket(0, 0, 5));
        Edge.range(Edge.at(9), b -> b.exchange(0, 0, 1));
        Edge.range(Edge.at(9), b -> b.performance(1, 8));
        Edge.range(Edge.open(".", 9), b -> b.soldShare(1));
    }

    // Promises 29 and 30

    private static void reason() {
        Edge.sentence("Promise 29", "Returns the reason that was kept last.");
        Edge.Steps seven = Edge.at(500).then(b -> Edge.outcome(b, Box::restore));
        Edge.Steps one = seven.then(b -> Edge.outcome(b, c -> c.hold(0, 1, 8, 0, 0, 9)));
        Edge.asked(7, seven, Box::reason);
        Edge.asked(1, one, Box::reason);
        Edge.asked(5, one.then(b -> Edge.outcome(b, c -> c.refund(0, 0))), Box::reason);
        Edge.asked(7, seven.then(b -> Edge.outcome(b, c -> c.advance(0))), Box::reason);
        Edge.asked(7, seven.then(b -> Edge.outcome(b, c -> c.release(0))), Box::reason);
        Edge.asked(7, seven.then(b -> Edge.outcome(b, c -> c.place(9, 9, 9))), Box::reason);
        Edge.asked(7, seven.then(b -> Edge.outcome(b, Box::meanAmount)), Box::reason);
        Edge.asked(7, seven.then(b -> Edge.outcome(b, Box::load)), Box::reason);
        Edge.asked(7, seven.then(b -> b.advance(1)), Box::reason);
        Edge.asked(7, seven.then(Edge.sold(0, 1, 1)), Box::reason);
        Edge.asked(7, seven.then(Box::undo), Box::reason);
        Edge.asked(7, seven.then(Edge.hall("1")), Box::reason);
        Edge.asked(1, Edge.at(500).then(Box::snapshot).then(b -> Edge.outcome(b, c -> c.hold(0, 1, 8, 0, 0, 9)))
                .then(Box::restore), Box::reason);
        Edge.asked(7, seven.then(Box::snapshot).then(Box::isReplayed), Box::reason);
        Edge.asked(7, seven.then(Box::reason), Box::reason);
        Edge.sentence("Promise 29", "Returns the reason, 0 if none was kept.");
        Edge.asked(0, Edge.NEW, Box::reason);
        Edge.asked(0, Edge.at(500).then(b -> Edge.outcome(b, c -> c.advance(0))), Box::reason);
        Edge.asked(0, Edge.hall("1"), Box::reason);
        Edge.asked(0, Edge.open(".", 9).then(b -> Edge.outcome(b, c -> c.soldShare(0))), Box::reason);
    }

    private static void undo() {
        Edge.sentence("Promise 30", "Undoes the last command: everything but the input buffer, the error position, the "
                + "reason and the snapshot is as it was before it, the number of all holds that were made included, so "
                + "that numbers are given again.");
        Edge.Steps open = Edge.at(500);
        Edge.due(0, open.then(b -> b.hold(0, 1, 1, 0, 0, 9)).then(Box::undo), b -> b.hold(0, 1, 1, 0, 0, 9));
        Edge.asked(0, open.then(b -> b.hold(0, 1, 1, 0, 0, 9)).then(Box::undo), b -> b.count(5));
        Edge.Steps two = open.then(b -> b.hold(0, 1, 1, 0, 0, 9)).then(b -> b.hold(0, 1, 1, 0, 0, 9));
        Edge.due(2, two.then(b -> b.release(0)).then(Box::undo), b -> b.hold(0, 1, 1, 0, 0, 9));
        Edge.due(1, two.then(b -> b.release(1)).then(Box::undo).then(Box::undo), b -> b.hold(0, 1, 1, 0, 0, 9));
        Edge.asked(0, two.then(b -> b.advance(9)).then(Box::undo), b -> b.count(0));
        Edge.asked(2, two.then(b -> b.advance(9)).then(Box::undo), b -> b.count(2));
        Edge.due(2, two.then(b -> b.advance(9)).then(Box::undo), b -> b.advance(9));
        Edge.due(0, open.then(Box::undo), b -> b.addPerformance(500, 100));
        Edge.due(4, open.then(Edge.type("11")).then(b -> b.setRule(true)).then(Edge.type("1")).then(Box::undo),
                b -> b.append('1'));
    }

    private static void undoOfEachCommand() {
        Edge.Steps few = Edge.at(500, 600).then(b -> b.hold(3, 3, 1, 0, 0, 9)).then(b -> b.hold(4, 1, 2, 0, 0, 60))
                .then(b -> b.confirm(0));
        Edge.Steps[] commands = {b -> b.addPerformance(700, 50), b -> b.setPrice(2, 5), b -> b.setFocus(0),
            b -> b.setRule(false), b -> b.block(0, 0, 0, true), b -> b.advance(60), b -> b.hold(0, 1, 1, 0, 0, 1),
            b -> b.release(1), b -> b.confirm(1), b -> b.exchange(0, 0, 0), b -> b.refund(0, 1),
            b -> b.block(0, 0, 0, false), b -> b.setRule(true), b -> b.setPrice(2, 3000), b -> b.advance(381)};
        for (Edge.Steps command : commands) {
            Edge.alike(few, few.then(command).then(Box::undo));
            Edge.alike(few.then(command), few.then(command).then(Box::undo).then(command));
            Edge.alikeNow(RICH, RICH.then(b -> b.setRule(true)).then(b -> b.advance(1)).then(Box::undo)
                    .then(Box::undo));
            Edge.Steps twice = few.then(command).then(b -> b.setRule(false)).then(Box::undo).then(Box::undo);
            Edge.alike(few, twice);
            Edge.asked(true, few.then(command).then(Box::undo), Box::isReplayed);
        }
        Edge.Steps typed = few.then(b -> b.setRule(false)).then(Edge.type("1/x")).then(b -> Edge.outcome(b, Box::load))
                .then(Box::snapshot).then(b -> Edge.outcome(b, c -> c.refund(9, 9))).then(Edge.type("1.")).then(Box::undo);
        Edge.due(3, typed, b -> b.append('.'));
        Edge.due(2, typed, Box::errorPosition);
        Edge.due(5, typed, Box::reason);
        Edge.due(0, typed, Box::restore);
        Edge.due(false, typed.then(Box::restore), b -> b.setRule(true));
    }

    private static void undoAnswers() {
        Edge.sentence("Promise 30", "Returns the number of commands that can still be undone.");
        Edge.due(0, prices(1, 1), Box::undo);
        Edge.due(6, prices(1, 7), Box::undo);
        Edge.due(7, prices(1, 8), Box::undo);
        Edge.due(7, prices(1, 9), Box::undo);
        Edge.due(7, prices(1, 100), Box::undo);
        Edge.due(0, prices(1, 100).then(Edge.times(7, Box::undo)), Box::undo);
        Edge.due(7, Edge.times(511, b -> b.setRule(true)), Box::undo);
        Edge.due(7, prices(1, 8).then(Box::undo).then(prices(1, 1)), Box::undo);
        Edge.sentence("Promise 30", "Throws `IllegalStateException` if there is none (7)");
        Edge.refused(7, Edge.NEW, Box::undo);
        Edge.refused(7, Edge.hall("1"), Box::undo);
        Edge.refused(7, prices(1, 5).then(Edge.hall("1")), Box::undo);
        Edge.refused(7, prices(1, 1).then(Box::undo), Box::undo);
        Edge.refused(7, prices(1, 8).then(Edge.times(8, Box::undo)), Box::undo);
        Edge.refused(7, prices(1, 9).then(Edge.times(8, Box::undo)), Box::undo);
        Edge.refused(7, prices(1, 50).then(Edge.times(8, Box::undo)), Box::undo);
        Edge.refused(7, prices(1, 50).then(Box::snapshot).then(Box::restore), Box::undo);
        Edge.refused(7, Edge.NEW.then(b -> Edge.outcome(b, c -> c.advance(0))), Box::undo);
        Edge.due(0, prices(1, 1).then(Edge.type("x")).then(b -> Edge.outcome(b, Box::load)), Box::undo);
    }

    // Promises 31 to 33

    /** A hold whose block depends on the rule. */
    private static Edge.Steps ruled(boolean rule) {
        return Edge.open("22222/22222", 500).then(b -> b.setRule(!rule)).then(b -> b.setRule(rule))
                .then(b -> b.hold(0, 1, 2, 0, 0, 9));
    }

    /** A hold whose block depends on whether a seat is blocked. */
    private static Edge.Steps blocked(boolean on) {
        return Edge.at(500).then(b -> b.block(0, 1, 2, !on)).then(b -> b.block(0, 1, 2, on))
                .then(b -> b.hold(0, 1, 1, 0, 0, 9));
    }

    private static void replay() {
        Edge.Steps[] states = {Edge.NEW, Edge.hall("1"), Edge.hall("."), RICH, RICH.then(Box::undo),
            RICH.then(Edge.times(8, Box::undo)), RICH.then(Box::restore), RICH.then(Edge.hall("wc")),
            RICH.then(Edge.hall("wc")).then(Box::restore), RICH.then(b -> b.advance(60)),
            RICH.then(b -> b.exchange(0, 0, 0)).then(b -> b.advance(469)).then(b -> b.refund(0, 0)),
            RICH.then(b -> b.release(1)).then(b -> b.hold(5, 4, 1, 0, 1, 60)), Edge.until(100000), prices(1, 30),
            prices(1, 30).then(Edge.times(8, Box::undo)).then(prices(1, 9)), Edge.at(1, 2, 3, 4, 5, 6),
            ruled(false), ruled(true), ruled(false).then(b -> b.setRule(true)).then(b -> b.hold(0, 1, 2, 0, 0, 9)),
            ruled(true).then(b -> b.setRule(false)).then(b -> b.hold(0, 1, 2, 0, 0, 9)),
            blocked(true), blocked(false), blocked(true).then(b -> b.block(0, 1, 2, false))};
        Edge.sentence("Promise 31", "Carries out all commands that were not undone once more, and compares the outcome "
                + "with the present time, prices, states, holds, tickets, accounts and the ledger.");
        for (Edge.Steps state : states) {
            Edge.due(true, state, Box::isReplayed);
        }
        Edge.due(true, Edge.times(511, b -> b.setRule(false)), Box::isReplayed);
        Edge.due(true, Edge.open("2", 1000).then(b -> {
            for (int i = 0; i < 60; i++) {
                b.setPrice(2, i);
                b.hold(i % 10, 1, 1, 0, 0, 9);
                b.confirm(i);
                b.refund(i, 0);
            }
        }), Box::isReplayed);
        Edge.sentence("Promise 31", "The state stays as it is.");
        for (Edge.Steps state : states) {
            Edge.alike(state, state.then(Box::isReplayed));
            Edge.alike(state, state.then(Box::isReplayed).then(Box::isReplayed));
        }
        Edge.sentence("Promise 31", "Returns whether everything is the same.");
        Edge.asked(true, RICH.then(Box::snapshot).then(b -> b.advance(1)).then(Box::restore), Box::isReplayed);
        Edge.asked(true, RICH.then(Box::restore).then(b -> b.setRule(false)).then(Box::undo), Box::isReplayed);
        Edge.asked(true, RICH.then(b -> Edge.outcome(b, c -> c.refund(0, 1))), Box::isReplayed);
        Edge.asked(true, RICH.then(Edge.type("x")).then(b -> Edge.outcome(b, Box::load)), Box::isReplayed);
    }

    private static void snapshot() {
        Edge.sentence("Promise 32", "Takes a snapshot of everything, the hall and the commands included, but the input "
                + "buffer, the error position, the reason and the snapshot itself.");
        Edge.Steps busy = Edge.open("2222/wc..", 500, 600).then(b -> b.setPrice(2, 9)).then(b -> b.setRule(false))
                .then(b -> b.setFocus(0)).then(Edge.sold(0, 3, 1)).then(b -> b.hold(1, 1, 1, 0, 0, 60))
                .then(b -> b.advance(4)).then(b -> b.block(1, 1, 1, true));
        Edge.Steps away = Edge.open("1/1", 9).then(b -> b.setPrice(1, 1)).then(Edge.sold(0, 1, 1));
        for (Edge.Steps state : new Edge.Steps[] {busy, Edge.NEW, Edge.hall("."), RICH, Edge.until(100000)}) {
            Edge.Steps taken = state.then(Box::snapshot);
            Edge.alikeNow(state, taken);
            Edge.alikeNow(state, taken.then(Box::restore));
            Edge.alikeNow(state, taken.then(b -> b.setPrice(2, 5)).then(Box::restore));
        }
        Edge.alikeNow(busy, busy.then(Box::snapshot).then(away).then(Box::restore));
        Edge.asked(6, busy.then(Box::snapshot).then(away).then(Box::restore), b -> b.count(6));
        Edge.asked(10, busy.then(Box::snapshot).then(away).then(Box::restore), b -> b.count(7));
        Edge.due(4, busy.then(Edge.type("11")).then(Box::snapshot).then(Edge.type("1")).then(Box::restore),
                b -> b.append('1'));
        Edge.due(1, busy.then(Box::snapshot).then(Edge.type("1x")).then(b -> Edge.outcome(b, Box::load))
                .then(Box::restore), Box::errorPosition);
        Edge.due(5, busy.then(Box::snapshot).then(b -> Edge.outcome(b, c -> c.refund(8, 8))).then(Box::restore),
                Box::reason);
        Edge.due(7, prices(1, 8).then(Box::snapshot), Box::undo);
        Edge.sentence("Promise 32", "It replaces an earlier one.");
        Edge.Steps second = busy.then(Box::snapshot).then(b -> b.advance(1)).then(Box::snapshot);
        Edge.due(5, second.then(b -> b.advance(1)), Box::restore);
        Edge.due(5, second.then(Box::restore).then(b -> b.advance(1)), Box::restore);
        Edge.alikeNow(away, busy.then(Box::snapshot).then(away).then(Box::snapshot).then(b -> b.setPrice(1, 8))
                .then(Box::restore));
        Edge.sentence("Promise 32", "Returns the time.");
        Edge.due(0, Edge.NEW, Box::snapshot);
        Edge.due(4, busy, Box::snapshot);
        Edge.due(100000, Edge.until(100000), Box::snapshot);
        Edge.due(0, busy.then(Edge.hall("1")), Box::snapshot);
    }

    private static void restore() {
        Edge.sentence("Promise 33", "Restores all that from the snapshot, which stays available.");
        Edge.Steps taken = Edge.at(500, 600).then(b -> b.advance(3)).then(Edge.sold(0, 3, 1)).then(Box::snapshot);
        Edge.Steps later = taken.then(b -> b.advance(7)).then(b -> b.refund(0, 0)).then(b -> b.hold(0, 1, 1, 0, 0, 9));
        Edge.alike(taken.then(Box::restore), later.then(Box::restore));
        Edge.alike(taken.then(Box::restore), later.then(Box::restore).then(b -> b.advance(1)).then(Box::restore));
        Edge.alike(taken.then(Box::restore), later.then(Box::restore).then(Edge.hall("1")).then(Box::restore));
        Edge.alike(taken.then(Box::restore), taken.then(Box::restore).then(Box::restore));
        Edge.due(1, later.then(Box::restore), b -> b.hold(0, 1, 1, 0, 0, 9));
        Edge.asked(3000, later.then(Box::restore), b -> b.ticket(0, 0, 4));
        Edge.asked(6000, later.then(Box::restore), b -> b.account(0));
        Edge.asked(2, later.then(Box::restore), b -> b.ledger(-1, 0));
        Edge.sentence("Promise 33", "Returns the time.");
        Edge.due(3, later, Box::restore);
        Edge.due(3, later.then(Edge.hall("1")), Box::restore);
        Edge.due(0, Edge.NEW.then(Box::snapshot).then(Edge.until(100000)), Box::restore);
        Edge.due(100000, Edge.until(100000).then(Box::snapshot).then(Edge.hall("1")), Box::restore);
        Edge.sentence("Promise 33", "Throws `IllegalStateException` if there is no snapshot (7)");
        Edge.refused(7, Edge.NEW, Box::restore);
        Edge.refused(7, Edge.at(9).then(Edge.sold(0, 1, 1)), Box::restore);
        Edge.refused(7, Edge.hall("1"), Box::restore);
        Edge.refused(7, prices(1, 9), Box::restore);
    }

    private static void afterRestore() {
        Edge.sentence("Promise 33", "After that no commands can be undone.");
        for (int n : new int[] {0, 1, 8, 9, 20}) {
            Edge.Steps restored = prices(1, n).then(Box::snapshot).then(Box::restore);
            Edge.refused(7, restored, Box::undo);
            Edge.asked(n, restored, b -> b.count(7));
            for (int more : new int[] {1, 7, 8, 9}) {
                Edge.Steps on = restored.then(prices(101, 100 + more));
                int can = Math.min(8, more);
                Edge.due(can - 1, on, Box::undo);
                Edge.refused(7, on.then(Edge.times(can, Box::undo)), Box::undo);
                Edge.asked(n + more - can, on.then(Edge.times(can, Box::undo)), b -> b.count(7));
            }
        }
        Edge.refused(7, prices(1, 5).then(Box::snapshot).then(prices(6, 9)).then(Box::restore), Box::undo);
        Edge.due(3, prices(1, 5).then(b -> Edge.outcome(b, Box::restore)).then(Box::undo), Box::undo);
        Edge.alike(prices(1, 5).then(Box::snapshot).then(Box::restore),
                prices(1, 5).then(Box::snapshot).then(Box::restore).then(prices(6, 9)).then(Edge.times(4, Box::undo)));
    }
}
