/** The promises of the document one by one: ordinary calls, the edges that it names, and wrong calls. */
public final class PromiseTest {
    private PromiseTest() {
    }

    private static Box hall(String map) {
        Box box = new Box();
        box.type(map);
        box.load();
        return box;
    }

    /** The first hall with a number of performances, at 1000, 2000 and so on, at the full price. */
    private static Box open(int performances) {
        Box box = new Box();
        for (int i = 1; i <= performances; i++) {
            box.addPerformance(1000 * i, 100);
        }
        return box;
    }

    private static Box open(String map, int... starts) {
        Box box = hall(map);
        for (int start : starts) {
            box.addPerformance(start, 100);
        }
        return box;
    }

    /** Row and first column of the best block, as ten times the row plus the column. */
    private static int bestAt(Box box, int set, int seats, int category, int kind) {
        return box.best(set, seats, category, kind, 0) * 10 + box.best(set, seats, category, kind, 1);
    }

    private static String ledger(Box box) {
        StringBuilder text = new StringBuilder();
        for (int i = 0; i < box.ledger(-1, 0); i++) {
            text.append(box.ledger(i, 0)).append(' ').append(box.ledger(i, 1)).append(' ')
                    .append(box.ledger(i, 2)).append(';');
        }
        return text.toString();
    }

    private static Box made(Edge.Steps steps) {
        Box box = new Box();
        steps.on(box);
        return box;
    }

    /** The second steps must lead to all that can be seen after the first ones. */
    private static void alike(String what, Edge.Steps first, Edge.Steps second) {
        Check.due(what, Seen.present(first), () -> Seen.present(second));
    }

    private static void newObject() {
        Box box = new Box();
        Check.due("1: seats", 18, () -> box.count(6));
        Check.due("1: category", 2, () -> box.place(2, 5, 0));
        Check.due("1: plain", 0, () -> box.place(2, 5, 1));
        Check.range("1: fourth row", () -> box.place(3, 0, 0));
        Check.range("1: seventh column", () -> box.place(0, 6, 0));
        Check.due("1: performances", 0, () -> box.count(1));
        Check.due("1: time", 0, () -> box.count(0));
        Check.due("1: commands", 0, () -> box.count(7));
        Check.due("1: ledger", 0, () -> box.ledger(-1, 0));
        Check.due("1: reason", 0, box::reason);
        Check.due("1: focus", 1, () -> box.setFocus(0));
        Check.due("1: rule", true, () -> box.setRule(true));
        for (int category = 1; category <= 4; category++) {
            int c = category;
            Check.due("1: price", 5000 - 1000 * c, () -> box.setPrice(c, 7));
        }
    }

    private static void append() {
        Box box = new Box();
        Check.due("2: first", 1, () -> box.append(' '));
        Check.due("2: second", 2, () -> box.append('~'));
        Check.argument("2: 31", () -> box.append((char) 31));
        Check.argument("2: 127", () -> box.append((char) 127));
        Check.argument("2: 0", () -> box.append((char) 0));
        Check.argument("2: 65535", () -> box.append((char) 65535));
        Check.due("2: no reason for a wrong code", 0, box::reason);
        for (int i = 3; i <= 103; i++) {
            int n = i;
            Check.due("2: number " + n, n, () -> box.append('1'));
        }
        Check.argument("2: the code comes first", () -> box.append((char) 31));
        Check.refused("2: full", 2, box, () -> box.append('1'));
        Check.argument("2: malformed", box::load);
        Check.due("2: empty again", 1, () -> box.append('1'));
    }

    private static void malformed(String text, int position) {
        Edge.Steps before = Edge.at(1000);
        Edge.Steps typed = before.then(Edge.type(text));
        Box box = made(typed);
        Check.argument("3: " + text, box::load);
        Check.due("4: position of " + text, position, box::errorPosition);
        Check.due("3: buffer empty after " + text, 1, () -> box.append('1'));
        alike("3: unchanged by " + text, before, typed.then(b -> Check.outcome(b::load)));
    }

    private static void tooLarge(String text) {
        Edge.Steps before = Edge.at(1000);
        Edge.Steps typed = before.then(Edge.type(text));
        Box box = made(typed);
        Check.due("3: " + text, "UnsupportedOperationException", box::load);
        Check.due("3: buffer empty after " + text, 1, () -> box.append('1'));
        Check.missing("4: large is not malformed " + text, box::errorPosition);
        alike("3: unchanged by " + text, before, typed.then(b -> Check.outcome(b::load)));
    }

    private static void load() {
        Box box = open(2);
        box.hold(1, 3, 2, 0, 0, 10);
        box.confirm(0);
        box.hold(2, 1, 2, 0, 0, 10);
        box.advance(5);
        box.setPrice(1, 5);
        box.setRule(false);
        box.setFocus(2);
        box.snapshot();
        Check.range("3: before", () -> box.exchange(0, 0, 7));
        Check.refused("3: before", 5, box, () -> box.refund(1, 1));
        box.type("1.w/2c./34./..1");
        Check.due("3: seats", 7, box::load);
        Check.due("3: reason stays", 5, box::reason);
        int[] counts = {0, 0, 0, 0, 0, 0, 7, 0};
        for (int what = 0; what <= 7; what++) {
            int w = what;
            Check.due("3: count " + w, counts[w], () -> box.count(w));
        }
        Check.due("3: ledger", 0, () -> box.ledger(-1, 0));
        Check.due("3: account", 0, () -> box.account(1));
        Check.due("3: category", 4, () -> box.place(2, 1, 0));
        Check.due("3: accessible", 1, () -> box.place(0, 2, 1));
        Check.due("3: companion", 2, () -> box.place(1, 1, 1));
        Check.due("3: no seat", 0, () -> box.place(3, 0, 0));
        Check.refused("3: nothing to undo", 7, box, box::undo);
        Check.due("3: focus of 4 rows", 2, () -> box.setFocus(0));
        Check.due("3: rule", true, () -> box.setRule(true));
        Check.due("3: price", 4000, () -> box.setPrice(1, 0));
        box.addPerformance(9, 100);
        Check.due("3: numbers from 0", 0, () -> box.hold(0, 1, 1, 0, 0, 1));
        Check.due("3: snapshot stays", 5, box::restore);
        Check.due("3: hall of the snapshot", 18, () -> box.count(6));
        Check.due("3: hold of the snapshot", 2, () -> box.heldBy(1, 0));
        Check.due("3: focus of 5 rows", 2, () -> hall("1/1/1/1/1").setFocus(0));
        Check.due("3: focus of 1 row", 0, () -> hall("1").setFocus(0));
        StringBuilder largest = new StringBuilder("123412341234");
        for (int i = 1; i < 8; i++) {
            largest.append("/1234cw.11111");
        }
        Check.due("3: largest", 12 + 7 * 11, () -> hall(largest.toString()).count(6));
        tooLarge("1/1/1/1/1/1/1/1/1");
        tooLarge("1111111111111");
        tooLarge("1111111111111/1111111111111");
    }

    private static void errorPosition() {
        Check.missing("4: none", () -> new Box().errorPosition());
        malformed("", 0);
        malformed("/", 0);
        malformed("/1", 0);
        malformed("0", 0);
        malformed("5", 0);
        malformed("W", 0);
        malformed("1 ", 1);
        malformed("11/", 3);
        malformed("11//", 3);
        malformed("11/1", 4);
        malformed("11/1/11", 4);
        malformed("11/111", 5);
        malformed("1/11", 3);
        malformed("11/11/", 6);
        malformed("11/11/x", 6);
        malformed("11/1x1", 4);
        malformed("1/1/1/1/1/1/1/1/1/", 18);
        malformed("1111111111111/1", 15);
        malformed("1111111111111/11111111111111", 27);
        Box box = new Box();
        box.type("1/x");
        Check.argument("4: malformed", box::load);
        box.type("1/1");
        Check.due("4: then a map", 2, box::load);
        box.type("1/1/1/1/1/1/1/1/1");
        Check.due("4: then a large map", "UnsupportedOperationException", box::load);
        box.setRule(true);
        box.undo();
        Check.due("4: the last one stays", 2, box::errorPosition);
        box.type("1x");
        Check.argument("4: malformed again", box::load);
        Check.due("4: the newer one", 1, box::errorPosition);
    }

    private static void place() {
        Box box = hall("1234wc./1111111");
        int[] categories = {1, 2, 3, 4, 1, 1, 0};
        int[] kinds = {0, 0, 0, 0, 1, 2, 0};
        int[] distances = {6, 4, 2, 0, 2, 4, 6};
        for (int column = 0; column < 7; column++) {
            int c = column;
            Check.due("5: category", categories[c], () -> box.place(0, c, 0));
            Check.due("5: kind", kinds[c], () -> box.place(0, c, 1));
            Check.due("5: distance in the focus row", distances[c], () -> box.place(1, c, 2));
            Check.due("5: distance beside it", distances[c] + 4, () -> box.place(0, c, 2));
        }
        Box first = new Box();
        Check.due("5: even number of columns", 1, () -> first.place(1, 2, 2));
        Check.due("5: even number of columns", 1, () -> first.place(1, 3, 2));
        first.setFocus(0);
        Check.due("5: two rows away", 13, () -> first.place(2, 5, 2));
        int[][] wrong = {{-1, 0}, {0, -1}, {2, 0}, {0, 7}, {Integer.MAX_VALUE, 0}, {0, Integer.MIN_VALUE}};
        for (int[] at : wrong) {
            Check.range("5: no such place", () -> box.place(at[0], at[1], 0));
            Check.range("5: the place comes first", () -> box.place(at[0], at[1], 3));
        }
        Check.argument("5: what -1", () -> box.place(0, 0, -1));
        Check.argument("5: what 3", () -> box.place(0, 6, 3));
    }

    private static void addPerformance() {
        Box box = new Box();
        Check.argument("6: start 0", () -> box.addPerformance(0, 100));
        Check.argument("6: start 100001", () -> box.addPerformance(100001, 100));
        Check.argument("6: factor 9", () -> box.addPerformance(1, 9));
        Check.argument("6: factor 301", () -> box.addPerformance(1, 301));
        Check.argument("6: far", () -> box.addPerformance(Integer.MIN_VALUE, Integer.MAX_VALUE));
        Check.due("6: the first", 0, () -> box.addPerformance(1, 10));
        Check.due("6: the second", 1, () -> box.addPerformance(100000, 300));
        box.advance(50);
        Check.argument("6: start is the time", () -> box.addPerformance(50, 100));
        for (int i = 2; i < 6; i++) {
            int n = i;
            Check.due("6: number " + n, n, () -> box.addPerformance(51, 100));
        }
        Check.argument("6: numbers come first", () -> box.addPerformance(50, 100));
        Check.refused("6: seven", 2, box, () -> box.addPerformance(51, 100));
        Check.due("6: all free", 18, () -> box.performance(5, 3));
        Check.due("6: six", 6, () -> box.count(1));
        Box other = open("1./w1", 10);
        Check.due("6: no seat stays no seat", 4, () -> other.state(0, 0, 1));
    }

    private static void setPrice() {
        Box box = open("1234", 1000);
        Check.due("7: previous", 3000, () -> box.setPrice(2, 100000));
        Check.due("7: previous", 100000, () -> box.setPrice(2, 0));
        Check.due("7: to 0", 0, () -> box.setPrice(2, 77));
        Check.due("7: the others stay", 4000 + 77 + 2000 + 1000, () -> box.performance(0, 7));
        Check.range("7: category 0", () -> box.setPrice(0, 1));
        Check.range("7: category 5", () -> box.setPrice(5, 1));
        Check.range("7: category first", () -> box.setPrice(-1, -1));
        Check.argument("7: price -1", () -> box.setPrice(1, -1));
        Check.argument("7: price 100001", () -> box.setPrice(4, 100001));
        Check.due("7: commands", 4, () -> box.count(7));
    }

    private static void setFocus() {
        Box box = open(1);
        Check.due("8: previous", 1, () -> box.setFocus(2));
        Check.due("8: previous", 2, () -> box.setFocus(0));
        Check.due("8: the best block follows", 2, () -> bestAt(box, 1, 2, 0, 0));
        Check.range("8: row -1", () -> box.setFocus(-1));
        Check.range("8: row 3", () -> box.setFocus(3));
        Check.due("8: commands", 3, () -> box.count(7));
    }

    private static void setRule() {
        Box box = open("22222", 1000);
        Check.due("9: a block at the edge", 0, () -> bestAt(box, 1, 3, 0, 0));
        Check.due("9: before", true, () -> box.setRule(false));
        Check.due("9: a block in the middle", 1, () -> bestAt(box, 1, 3, 0, 0));
        Check.due("9: its orphans count all the same", 2, () -> box.best(1, 3, 0, 0, 3));
        Check.due("9: before", false, () -> box.setRule(false));
        Check.due("9: before", false, () -> box.setRule(true));
        Check.due("9: before", true, () -> box.setRule(true));
        Check.due("9: each is a command", 5, () -> box.count(7));
    }

    private static void block() {
        Box box = open("12./222", 1000, 2000);
        Check.due("10: block", false, () -> box.block(0, 0, 0, true));
        Check.due("10: blocked", 3, () -> box.state(0, 0, 0));
        Check.due("10: not in the other", 0, () -> box.state(1, 0, 0));
        Check.due("10: again", true, () -> box.block(0, 0, 0, true));
        Check.due("10: free", true, () -> box.block(0, 0, 0, false));
        Check.due("10: free again", false, () -> box.block(0, 0, 0, false));
        Check.due("10: free", 0, () -> box.state(0, 0, 0));
        Check.due("10: four commands more", 6, () -> box.count(7));
        Check.range("10: performance -1", () -> box.block(-1, 0, 0, true));
        Check.range("10: performance 2", () -> box.block(2, 0, 0, true));
        Check.range("10: row", () -> box.block(0, 2, 0, true));
        Check.range("10: column", () -> box.block(0, 0, 3, true));
        Check.argument("10: no seat", () -> box.block(0, 0, 2, true));
        box.hold(0, 1, 3, 0, 0, 60);
        Check.refused("10: held", 4, box, () -> box.block(0, 1, 1, true));
        Check.due("10: not held in the other", false, () -> box.block(1, 1, 1, true));
        box.confirm(0);
        Check.refused("10: sold", 4, box, () -> box.block(0, 1, 0, false));
        box.advance(5000);
        Check.due("10: also after the start", false, () -> box.block(0, 0, 1, true));
    }

    private static void state() {
        Box box = open("22222/....w", 1000, 2000);
        box.hold(4, 1, 2, 0, 0, 60);
        box.hold(5, 1, 2, 0, 0, 60);
        box.confirm(0);
        box.block(0, 0, 4, true);
        int[] states = {2, 2, 1, 1, 3};
        for (int column = 0; column < 5; column++) {
            int c = column;
            Check.due("11: state", states[c], () -> box.state(0, 0, c));
            Check.due("11: in the other", 0, () -> box.state(1, 0, c));
        }
        Check.due("11: no seat", 4, () -> box.state(0, 1, 3));
        Check.due("11: accessible", 0, () -> box.state(0, 1, 4));
        Check.due("12: sold", 0, () -> box.holder(0, 0, 0));
        Check.due("12: sold", 0, () -> box.holder(0, 0, 1));
        Check.due("12: held", 1, () -> box.holder(0, 0, 2));
        Check.missing("12: blocked", () -> box.holder(0, 0, 4));
        Check.missing("12: no seat", () -> box.holder(0, 1, 0));
        Check.missing("12: free", () -> box.holder(1, 0, 0));
        int[][] wrong = {{-1, 0, 0}, {2, 0, 0}, {0, -1, 0}, {0, 2, 0}, {0, 0, -1}, {0, 0, 5}};
        for (int[] at : wrong) {
            Check.range("11: nowhere", () -> box.state(at[0], at[1], at[2]));
            Check.range("12: nowhere", () -> box.holder(at[0], at[1], at[2]));
        }
        box.release(1);
        Check.due("11: released", 0, () -> box.state(0, 0, 2));
        Check.missing("12: released", () -> box.holder(0, 0, 2));
        box.refund(0, 0);
        Check.due("11: refunded", 0, () -> box.state(0, 0, 0));
        Check.missing("12: refunded", () -> box.holder(0, 0, 0));
    }

    private static void advance() {
        Box box = open(2);
        box.hold(0, 3, 2, 0, 0, 10);
        box.hold(1, 1, 2, 0, 0, 11);
        box.hold(2, 1, 2, 0, 0, 10);
        Check.due("13: not yet", 0, () -> box.advance(9));
        Check.due("13: two expire", 2, () -> box.advance(1));
        Check.missing("13: expired", () -> box.heldBy(0, 0));
        Check.due("13: the other stays", 1, () -> box.heldBy(1, 0));
        Check.due("13: held seats", 2, () -> box.performance(0, 4));
        Check.due("13: in the other performance", 0, () -> box.performance(1, 4));
        Check.due("13: the last", 1, () -> box.advance(10000));
        Check.due("13: time", 10010, () -> box.count(0));
        Check.argument("13: 0", () -> box.advance(0));
        Check.argument("13: -1", () -> box.advance(-1));
        Check.argument("13: 10001", () -> box.advance(10001));
        for (int i = 0; i < 8; i++) {
            box.advance(10000);
        }
        Check.due("13: up to the end", 0, () -> box.advance(9990));
        Check.argument("13: the number comes first", () -> box.advance(10001));
        Check.refused("13: beyond the end", 2, box, () -> box.advance(1));
        Check.due("13: time", 100000, () -> box.count(0));
        Check.argument("6: no start is later", () -> box.addPerformance(100001, 100));
    }

    private static void blockCount() {
        Box box = open("112w21/c1..21", 61, 2000);
        Check.due("14: single seats", 8, () -> box.blockCount(1, 1, 0, 0));
        Check.due("14: pairs", 4, () -> box.blockCount(1, 2, 0, 0));
        Check.due("14: category 1", 5, () -> box.blockCount(1, 1, 1, 0));
        Check.due("14: category 2", 3, () -> box.blockCount(1, 1, 2, 0));
        Check.due("14: category 3", 0, () -> box.blockCount(1, 1, 3, 0));
        Check.due("14: category 4", 0, () -> box.blockCount(1, 1, 4, 0));
        Check.due("14: with the accessible place", 3, () -> box.blockCount(1, 3, 0, 1));
        Check.due("14: accessible is category 1", 1, () -> box.blockCount(1, 1, 1, 1));
        Check.due("14: accessible is not category 2", 0, () -> box.blockCount(1, 1, 2, 1));
        Check.due("14: too long", 0, () -> box.blockCount(1, 7, 0, 1));
        box.advance(1);
        Check.due("14: companions 60 minutes before", 9, () -> box.blockCount(1, 1, 0, 0));
        Check.due("14: companion pairs", 5, () -> box.blockCount(1, 2, 0, 0));
        Check.due("14: not in both", 8, () -> box.blockCount(3, 1, 0, 0));
        box.advance(100);
        Check.due("14: companions after the start", 9, () -> box.blockCount(1, 1, 0, 0));
        box.block(1, 0, 0, true);
        Check.due("14: free in all", 7, () -> box.blockCount(3, 1, 0, 0));
        Check.due("14: free in one", 7, () -> box.blockCount(2, 1, 0, 0));
        Check.due("14: free in the other", 9, () -> box.blockCount(1, 1, 0, 0));
        Box two = open("wwc2", 1000);
        Check.due("14: exactly one accessible", 2, () -> two.blockCount(1, 1, 0, 1));
        Check.due("14: not two", 1, () -> two.blockCount(1, 2, 0, 1));
        Check.due("14: companions with kind 1", 1, () -> two.blockCount(1, 3, 0, 1));
        Check.due("14: kind 1 needs one", 1, () -> two.blockCount(1, 1, 0, 0));
        Box wide = open("222222222222", 1000);
        Check.due("14: eight", 5, () -> wide.blockCount(1, 8, 0, 0));
        wrongRequests(box);
        Check.range("14: no performances", () -> new Box().blockCount(1, 1, 0, 0));
    }

    private static void wrongRequests(Box box) {
        for (int set : new int[] {0, 4, 5, -1, Integer.MIN_VALUE, Integer.MIN_VALUE + 1}) {
            Check.range("14: set", () -> box.blockCount(set, 0, 0, 0));
            Check.range("15: set", () -> box.best(set, 0, 0, 0, 9));
            Check.range("16: set", () -> box.hold(0, set, 0, 0, 0, 0));
        }
        int[][] wrong = {{0, 0, 0}, {9, 0, 0}, {1, -1, 0}, {1, 5, 0}, {1, 0, -1}, {1, 0, 2}, {-1, 0, 0}};
        for (int[] r : wrong) {
            Check.argument("14: request", () -> box.blockCount(1, r[0], r[1], r[2]));
            Check.argument("15: request", () -> box.best(1, r[0], r[1], r[2], 0));
            Check.argument("16: request", () -> box.hold(0, 1, r[0], r[1], r[2], 1));
        }
    }

    private static void best() {
        Box box = open(2);
        Check.due("15: row", 1, () -> box.best(3, 2, 0, 0, 0));
        Check.due("15: column", 2, () -> box.best(3, 2, 0, 0, 1));
        Check.due("15: distance", 2, () -> box.best(3, 2, 0, 0, 2));
        Check.due("15: orphans", 0, () -> box.best(3, 2, 0, 0, 3));
        Check.due("15: prices in both", 12000, () -> box.best(3, 2, 0, 0, 4));
        Check.due("15: prices in one", 6000, () -> box.best(2, 2, 0, 0, 4));
        Check.due("15: one side has two, the other one", 10, () -> bestAt(box, 1, 4, 0, 0));
        Check.argument("15: what -1", () -> box.best(1, 1, 0, 0, -1));
        Check.argument("15: what 5", () -> box.best(1, 1, 0, 0, 5));
        Check.argument("15: what comes before no block", () -> box.best(1, 8, 0, 0, 5));
        Check.missing("15: no block", () -> box.best(1, 8, 0, 0, 0));
        Check.missing("15: no accessible place", () -> box.best(1, 1, 0, 1, 0));
        bestOrphans();
        bestOfEqual();
        Box cheap = open("11", 1000);
        cheap.addPerformance(1000, 33);
        cheap.setPrice(1, 101);
        Check.due("15: each price is rounded down", 66, () -> cheap.best(2, 2, 0, 0, 4));
        cheap.addPerformance(1000, 50);
        Check.due("15: sum over all", 202 + 66 + 100, () -> cheap.best(7, 2, 0, 0, 4));
    }

    private static void bestOrphans() {
        Box edge = open("2222", 1000);
        Check.due("15: an orphan before the edge", 1, () -> edge.best(1, 3, 0, 0, 3));
        Box gap = open("2.222", 1000);
        gap.block(0, 0, 0, true);
        Check.due("15: an orphan beside no seat", 1, () -> gap.best(1, 2, 0, 0, 3));
        Box special = open("wc2", 1000);
        Check.due("15: an accessible place and a companion can be none", 0, () -> special.best(1, 1, 2, 0, 3));
        special.block(0, 0, 0, true);
        Check.due("15: a companion can be one", 1, () -> special.best(1, 1, 2, 0, 3));
        Box two = open("2222", 1000, 2000);
        two.block(0, 0, 0, true);
        two.block(1, 0, 1, true);
        Check.due("15: on the left side, not free behind in the second", 1, () -> two.best(3, 1, 0, 0, 3));
        two.undo();
        two.undo();
        two.block(0, 0, 0, true);
        two.block(0, 0, 1, true);
        Check.due("15: free and not free in different performances", 0, () -> two.best(3, 2, 0, 0, 3));
        Box both = open("2222", 1000, 2000);
        both.block(0, 0, 0, true);
        Check.due("15: in one performance of two", 1, () -> both.best(3, 2, 0, 0, 3));
        Check.due("15: in the other none", 0, () -> both.best(2, 2, 0, 0, 3));
    }

    private static void bestOfEqual() {
        Box box = open("2222222/2222222/2222222", 1000);
        box.setRule(false);
        Check.due("15: the least sum", 13, () -> bestAt(box, 1, 1, 0, 0));
        box.block(0, 1, 3, true);
        Check.due("15: the lowest column of equal ones", 12, () -> bestAt(box, 1, 1, 0, 0));
        for (int column = 0; column < 7; column++) {
            box.block(0, 1, column, true);
        }
        Check.due("15: the lowest row of equal ones", 3, () -> bestAt(box, 1, 1, 0, 0));
        box.block(0, 0, 3, true);
        Check.due("15: the least sum before the row", 23, () -> bestAt(box, 1, 1, 0, 0));
        Box rule = open("22222/222..", 1000);
        Check.due("15: fewest orphans before the sum", 10, () -> bestAt(rule, 1, 3, 0, 0));
        Check.due("15: their sum is larger", 6, () -> rule.best(1, 3, 0, 0, 2));
    }

    private static void hold() {
        Box box = open(2);
        Check.due("16: the first", 0, () -> box.hold(9, 3, 2, 2, 0, 60));
        Check.due("16: held", 1, () -> box.state(1, 1, 3));
        Check.due("16: the second", 1, () -> box.hold(0, 1, 1, 0, 0, 1));
        box.release(0);
        Check.due("16: a number is not given again", 2, () -> box.hold(9, 1, 1, 0, 0, 60));
        Check.range("16: customer -1", () -> box.hold(-1, 1, 1, 0, 0, 1));
        Check.range("16: customer 10", () -> box.hold(10, 1, 1, 0, 0, 1));
        Check.range("16: customer first", () -> box.hold(10, 1, 0, 0, 0, 0));
        Check.argument("16: minutes 0", () -> box.hold(0, 1, 1, 0, 0, 0));
        Check.argument("16: minutes 61", () -> box.hold(0, 1, 1, 0, 0, 61));
        Check.refused("16: no block", 1, box, () -> box.hold(0, 1, 7, 0, 0, 1));
        Check.due("16: nothing made", 3, () -> box.count(5));
        Box full = open("2222222/2222222", 1000, 5000);
        for (int i = 0; i < 12; i++) {
            full.hold(i % 10, 1, 1, 0, 0, 60);
        }
        Check.refused("16: 12 holds", 2, full, () -> full.hold(0, 1, 1, 0, 0, 60));
        Check.refused("16: no block comes before 12 holds", 1, full, () -> full.hold(0, 1, 8, 0, 0, 60));
        full.confirm(3);
        Check.due("16: an order is no hold", 12, () -> full.hold(0, 2, 1, 0, 0, 60));
        full.advance(1000);
        Check.refused("16: started", 3, full, () -> full.hold(0, 1, 1, 0, 0, 60));
        Check.refused("16: started comes first", 3, full, () -> full.hold(0, 3, 8, 0, 0, 60));
        Check.due("16: the other has not", 13, () -> full.hold(0, 2, 1, 0, 0, 60));
    }

    private static void release() {
        Box box = open(2);
        box.hold(0, 3, 2, 0, 0, 60);
        box.hold(0, 1, 2, 0, 0, 5);
        box.advance(4);
        Check.due("17: left", 56, () -> box.release(0));
        Check.due("17: left", 1, () -> box.release(1));
        Check.due("17: free", 18, () -> box.performance(0, 3));
        Check.due("17: free in both", 18, () -> box.performance(1, 3));
        Check.missing("17: twice", () -> box.release(0));
        Check.missing("17: never made", () -> box.release(2));
        Check.missing("17: -1", () -> box.release(-1));
        box.hold(0, 1, 1, 0, 0, 5);
        box.confirm(2);
        Check.missing("17: confirmed", () -> box.release(2));
        box.hold(0, 1, 1, 0, 0, 5);
        box.advance(5);
        Check.missing("17: expired", () -> box.release(3));
    }

    private static void confirm() {
        Box box = open("2211", 1000, 2000);
        box.addPerformance(3000, 33);
        box.setPrice(2, 105);
        box.hold(7, 3, 2, 2, 0, 60);
        box.setPrice(2, 107);
        Check.due("18: two tickets at the prices of the moment", 428, () -> box.confirm(0));
        Check.due("18: sold", 2, () -> box.state(1, 0, 1));
        Check.due("18: not in the third", 0, () -> box.state(2, 0, 1));
        Check.missing("18: no hold any more", () -> box.confirm(0));
        Check.due("18: the customer paid", 428, () -> box.account(7));
        Check.due("18: no hold", 0, () -> box.count(2));
        box.setPrice(1, 1009);
        box.hold(8, 7, 1, 1, 0, 60);
        Check.due("18: three tickets less a tenth", 909 + 909 + 299, () -> box.confirm(1));
        Check.due("18: rounded down", 909, () -> box.ticket(1, 0, 4));
        Check.due("18: rounded down", 299, () -> box.ticket(1, 2, 4));
        Check.due("18: ledger", "1 7 214;1 7 214;1 8 909;1 8 909;1 8 299;", () -> ledger(box));
        Check.missing("18: never made", () -> box.confirm(2));
        Check.missing("18: -1", () -> box.confirm(-1));
        box.advance(950);
        box.hold(0, 5, 1, 0, 0, 60);
        box.advance(50);
        Check.refused("18: started", 3, box, () -> box.confirm(2));
        Check.due("18: still held", 1, () -> box.state(2, 0, 3));
        box.advance(10);
        Check.missing("18: expired", () -> box.confirm(2));
        confirmLimit();
    }

    private static void confirmLimit() {
        Box box = open("222222222222/222222222222", 1000, 2000);
        for (int i = 0; i < 20; i++) {
            box.hold(0, 1, 1, 0, 0, 60);
            box.confirm(i);
        }
        Check.due("18: 20 orders", 20, () -> box.count(3));
        Box many = open("222222222222/222222222222", 1, 2, 3, 4, 5, 6);
        for (int i = 0; i < 20; i++) {
            many.hold(0, 63, 1, 0, 0, 60);
            many.confirm(i);
        }
        Check.due("18: 120 tickets", 120, () -> many.count(4));
        Check.due("18: the last ticket", 2700, () -> many.ticket(19, 5, 4));
        Check.due("18: all paid", 120 * 2700, () -> many.account(0));
        box.hold(0, 3, 1, 0, 0, 60);
        Check.refused("18: one more", 2, box, () -> box.confirm(20));
        box.refund(5, 0);
        Check.due("18: after a refund", 6000, () -> box.confirm(20));
        box.hold(0, 3, 1, 0, 0, 60);
        Check.refused("18: one more again", 2, box, () -> box.confirm(21));
        box.refund(20, 0);
        Check.refused("18: the order has a ticket left", 2, box, () -> box.confirm(21));
        Box late = open("222222222222/222222222222", 10, 2000);
        for (int i = 0; i < 20; i++) {
            late.hold(0, 2, 1, 0, 0, 60);
            late.confirm(i);
        }
        late.hold(0, 1, 1, 0, 0, 60);
        late.advance(10);
        Check.refused("18: started comes first", 3, late, () -> late.confirm(20));
    }

    private static void heldBy() {
        Box box = open(3);
        box.advance(7);
        box.hold(1, 1, 1, 0, 0, 1);
        box.hold(8, 5, 3, 0, 0, 30);
        int[] numbers = {8, 5, 1, 3, 3, 37};
        for (int what = 0; what <= 5; what++) {
            int w = what;
            Check.due("19: what " + w, numbers[w], () -> box.heldBy(1, w));
        }
        Check.argument("19: what -1", () -> box.heldBy(1, -1));
        Check.argument("19: what 6", () -> box.heldBy(1, 6));
        Check.missing("19: the hold comes first", () -> box.heldBy(2, 6));
        Check.missing("19: -1", () -> box.heldBy(-1, 0));
        box.confirm(1);
        Check.missing("19: confirmed", () -> box.heldBy(1, 0));
    }

    private static void ticket() {
        Box box = open(3);
        box.hold(8, 5, 3, 0, 0, 30);
        Check.missing("20: a hold is no order", () -> box.ticket(0, 0, 0));
        box.confirm(0);
        int[] numbers = {8, 1, 0, 3, 9000};
        for (int what = 0; what <= 4; what++) {
            int w = what;
            Check.due("20: what " + w, numbers[w], () -> box.ticket(0, 0, w));
            Check.due("20: what " + w, numbers[w], () -> box.ticket(0, 2, w));
        }
        Check.argument("20: what -1", () -> box.ticket(0, 0, -1));
        Check.argument("20: what 5", () -> box.ticket(0, 0, 5));
        Check.missing("20: not in the set", () -> box.ticket(0, 1, 0));
        Check.missing("20: the ticket comes first", () -> box.ticket(0, 1, 5));
        Check.missing("20: no such performance", () -> box.ticket(0, -1, 0));
        Check.missing("20: no such performance", () -> box.ticket(0, 32, 0));
        Check.missing("20: no such order", () -> box.ticket(1, 0, 0));
        box.refund(0, 0);
        Check.missing("20: refunded", () -> box.ticket(0, 0, 0));
        Check.due("20: the other stays", 8, () -> box.ticket(0, 2, 0));
    }

    private static void exchange() {
        Box box = open("222/111", 1000, 2000, 3000);
        box.hold(3, 3, 2, 2, 0, 60);
        box.confirm(0);
        Check.range("21: no performance", () -> box.exchange(0, 0, 3));
        Check.range("21: no performance", () -> box.exchange(9, 9, -1));
        Check.refused("21: no order", 5, box, () -> box.exchange(1, 0, 0));
        Check.refused("21: no ticket", 5, box, () -> box.exchange(0, 2, 0));
        Check.refused("21: no ticket", 5, box, () -> box.exchange(0, -1, 0));
        Check.refused("21: no ticket", 5, box, () -> box.exchange(0, 32, 0));
        Check.refused("21: another ticket", 6, box, () -> box.exchange(0, 0, 1));
        Check.refused("21: another ticket", 6, box, () -> box.exchange(0, 1, 0));
        Check.due("21: the same performance", 2000, () -> box.exchange(0, 0, 0));
        Check.due("21: a new row", 1, () -> box.ticket(0, 0, 1));
        Check.due("21: old seats free", 0, () -> box.state(0, 0, 0));
        Check.due("21: new seats sold", 0, () -> box.holder(0, 1, 0));
        Check.due("21: back, less", -2000, () -> box.exchange(0, 0, 0));
        box.setPrice(1, 3000);
        Check.due("21: another performance", 0, () -> box.exchange(0, 0, 2));
        Check.missing("21: old ticket gone", () -> box.ticket(0, 0, 4));
        Check.due("21: new ticket", 6000, () -> box.ticket(0, 2, 4));
        Check.due("21: account", 12000, () -> box.account(3));
        Check.due("21: ledger", "1 3 6000;1 3 6000;2 3 2000;2 3 -2000;2 3 0;", () -> ledger(box));
        Check.due("21: revenue went along", 6000, () -> box.performance(2, 2));
        Check.due("21: revenue went along", 0, () -> box.performance(0, 2));
        box.advance(1000);
        Check.refused("21: to has started", 3, box, () -> box.exchange(0, 2, 0));
        box.advance(1000);
        Check.refused("21: from has started", 3, box, () -> box.exchange(0, 1, 1));
        Check.refused("21: started before another ticket", 3, box, () -> box.exchange(0, 1, 2));
        Check.refused("21: no ticket before started", 5, box, () -> box.exchange(0, 0, 0));
        exchangeKinds();
    }

    private static void exchangeKinds() {
        Box box = open("22w1/22w1", 1000, 2000, 3000, 4000);
        box.hold(3, 7, 2, 0, 1, 60);
        Check.due("21: with a tenth less", (4000 + 4000) * 9 / 10 * 3, () -> box.confirm(0));
        Check.due("21: accessible again, without the tenth", 800, () -> box.exchange(0, 0, 0));
        Check.due("21: with the accessible place", 2, () -> box.ticket(0, 0, 2));
        box.hold(3, 1, 1, 2, 0, 60);
        Check.due("21: in the other row", 0, () -> box.ticket(0, 0, 1));
        Check.due("21: the old seats leave no orphan", 10, () -> 10 * box.heldBy(1, 2) + box.heldBy(1, 3));
        box.block(3, 0, 2, true);
        box.block(3, 1, 2, true);
        Check.refused("21: no accessible block", 1, box, () -> box.exchange(0, 0, 3));
        box.block(3, 0, 2, false);
        Check.due("21: another accessible block", 0, () -> box.exchange(0, 0, 3));
        Check.due("21: the seats", 2, () -> box.state(3, 0, 2));
        Box side = open("22w21", 1000);
        side.hold(0, 1, 2, 2, 0, 1);
        side.confirm(0);
        Check.due("21: beside an accessible place, of any category", 1000, () -> side.exchange(0, 0, 0));
        Check.due("21: a new column", 3, () -> side.ticket(0, 0, 2));
        Edge.Steps own = Edge.open("222", 1000).then(Edge.sold(0, 1, 2));
        Box tried = made(own);
        Check.refused("21: its own seats are not free", 1, tried, () -> tried.exchange(0, 0, 0));
        alike("21: unchanged", own, own.then(b -> Check.outcome(() -> b.exchange(0, 0, 0))));
        Box plain = open("22.ww.cc", 1000, 1030);
        plain.hold(0, 1, 2, 0, 0, 1);
        plain.confirm(0);
        plain.block(1, 0, 0, true);
        Check.refused("21: kind 0 takes no accessible place, no early companion", 1, plain,
                () -> plain.exchange(0, 0, 1));
        plain.advance(970);
        Check.due("21: a late companion", 2000, () -> plain.exchange(0, 0, 1));
    }

    private static void refund() {
        Box box = open("22222222", 1000);
        box.addPerformance(500, 37);
        box.setPrice(2, 1001);
        for (int i = 0; i < 4; i++) {
            box.hold(i, 1 + 2 * (i % 2), 1, 0, 0, 60);
            box.confirm(i);
        }
        Check.due("22: amount", 370, () -> box.ticket(1, 1, 4));
        box.advance(380);
        Check.due("22: 120 minutes before, all", 370, () -> box.refund(1, 1));
        Check.missing("22: no ticket", () -> box.ticket(1, 1, 0));
        Check.due("22: the other ticket stays", 1001, () -> box.ticket(1, 0, 4));
        Check.due("22: revenue", 370, () -> box.performance(1, 2));
        box.setPrice(2, 51);
        box.advance(1);
        Check.due("22: later, half", 185, () -> box.refund(3, 1));
        Check.due("22: the rest is kept", 185, () -> box.performance(1, 2));
        Check.due("22: seats free", 8, () -> box.performance(1, 3));
        Check.refused("22: twice", 5, box, () -> box.refund(3, 1));
        Check.refused("22: no such order", 5, box, () -> box.refund(4, 0));
        Check.refused("22: no such order", 5, box, () -> box.refund(-1, 0));
        Check.refused("22: no such performance", 5, box, () -> box.refund(0, -1));
        Check.refused("22: no such performance", 5, box, () -> box.refund(0, 33));
        box.advance(618);
        Check.due("22: half, rounded down", 500, () -> box.refund(0, 0));
        Check.due("22: the larger half is kept", 501 + 3 * 1001, () -> box.performance(0, 2));
        Check.due("22: account", 501, () -> box.account(0));
        Check.due("22: account", 1001 + 370 - 185, () -> box.account(3));
        Check.due("22: negative in the ledger", -500, () -> box.ledger(box.ledger(-1, 0) - 1, 2));
        box.advance(1);
        Check.refused("22: started", 3, box, () -> box.refund(1, 0));
        Check.refused("22: no ticket comes first", 5, box, () -> box.refund(0, 0));
        Box free = open("1", 1000);
        free.setPrice(1, 0);
        free.hold(5, 1, 1, 0, 0, 1);
        free.confirm(0);
        Check.due("22: nothing back", 0, () -> free.refund(0, 0));
        Check.due("22: ledger", "1 5 0;3 5 0;", () -> ledger(free));
    }

    private static void performance() {
        Box box = hall("1234.w");
        box.addPerformance(77, 50);
        box.addPerformance(1000, 250);
        box.block(1, 0, 0, true);
        box.hold(0, 2, 2, 0, 0, 60);
        box.confirm(0);
        box.hold(0, 2, 1, 0, 1, 60);
        int[] first = {77, 50, 0, 5, 0, 0, 0, 7000};
        int[] second = {1000, 250, 7500, 1, 1, 2, 1, 7500};
        for (int what = 0; what <= 7; what++) {
            int w = what;
            Check.due("23: first, " + w, first[w], () -> box.performance(0, w));
            Check.due("23: second, " + w, second[w], () -> box.performance(1, w));
        }
        Check.argument("23: what -1", () -> box.performance(0, -1));
        Check.argument("23: what 8", () -> box.performance(0, 8));
        Check.range("23: performance -1", () -> box.performance(-1, 0));
        Check.range("23: the performance comes first", () -> box.performance(2, 8));
    }

    private static void account() {
        Box box = open(1);
        box.hold(0, 1, 1, 0, 0, 60);
        box.hold(9, 1, 2, 0, 0, 60);
        Check.due("24: a hold costs nothing", 0, () -> box.account(9));
        box.confirm(0);
        box.confirm(1);
        Check.due("24: customer 0", 3000, () -> box.account(0));
        Check.due("24: customer 9", 6000, () -> box.account(9));
        Check.due("24: customer 1", 0, () -> box.account(1));
        box.setPrice(2, 1000);
        box.exchange(1, 0, 0);
        Check.due("24: after an exchange", 2000, () -> box.account(9));
        box.refund(1, 0);
        Check.due("24: after a refund", 0, () -> box.account(9));
        Check.range("24: -1", () -> box.account(-1));
        Check.range("24: 10", () -> box.account(10));
    }

    private static void soldShare() {
        Box box = open("222.wc/2222..", 1000);
        Check.due("25: none", 0.0, () -> box.soldShare(0));
        box.hold(0, 1, 2, 0, 0, 60);
        box.block(0, 0, 4, true);
        Check.due("25: held is not sold", 0.0, () -> box.soldShare(0));
        box.confirm(0);
        Check.due("25: two of nine", 2.0 / 9.0, () -> box.soldShare(0));
        Check.range("25: -1", () -> box.soldShare(-1));
        Check.range("25: 1", () -> box.soldShare(1));
        Box empty = open("../..", 1000);
        Check.due("25: no seats", "ArithmeticException", () -> empty.soldShare(0));
        Check.range("25: the performance comes first", () -> empty.soldShare(1));
        Check.due("25: no seats, no reason", 0, empty::reason);
    }

    private static void meanAmount() {
        Box box = open("1222", 1000, 2000);
        Check.due("26: none", "ArithmeticException", box::meanAmount);
        box.hold(0, 3, 1, 1, 0, 60);
        Check.due("26: a hold", "ArithmeticException", box::meanAmount);
        box.confirm(0);
        Check.due("26: one kind", 4000f, box::meanAmount);
        box.hold(0, 1, 1, 2, 0, 60);
        box.confirm(1);
        Check.due("26: in float", 11000f / 3f, box::meanAmount);
        box.refund(0, 0);
        box.refund(0, 1);
        Check.due("26: without refunded ones", 3000f, box::meanAmount);
        box.setPrice(1, 0);
        box.setPrice(2, 0);
        box.exchange(1, 0, 0);
        Check.due("26: free tickets", 0f, box::meanAmount);
        box.refund(1, 0);
        Check.due("26: all refunded", "ArithmeticException", box::meanAmount);
    }

    private static void count() {
        Box box = open(3);
        box.hold(0, 7, 1, 0, 0, 60);
        box.hold(0, 3, 1, 0, 0, 60);
        box.hold(0, 1, 1, 0, 0, 60);
        box.hold(0, 1, 1, 0, 0, 60);
        box.advance(12);
        box.confirm(0);
        box.confirm(1);
        box.release(3);
        box.refund(0, 1);
        int[] counts = {12, 3, 1, 2, 4, 4, 18, 12};
        for (int what = 0; what <= 7; what++) {
            int w = what;
            Check.due("27: " + w, counts[w], () -> box.count(w));
        }
        box.undo();
        Check.due("27: tickets after undo", 5, () -> box.count(4));
        Check.due("27: commands after undo", 11, () -> box.count(7));
        Check.argument("27: -1", () -> box.count(-1));
        Check.argument("27: 8", () -> box.count(8));
        box.refund(1, 0);
        box.refund(1, 1);
        Check.due("27: an order without tickets", 1, () -> box.count(3));
        Check.argument("27: wrong calls are no commands", () -> box.setPrice(1, -1));
        Check.due("27: commands", 13, () -> box.count(7));
    }

    private static void ledgerLimit() {
        Box box = open("222222222222", 1000);
        Check.due("28: none", 0, () -> box.ledger(-1, 77));
        Check.range("28: none", () -> box.ledger(0, 0));
        Check.range("28: -2", () -> box.ledger(-2, 0));
        for (int i = 0; i < 20; i++) {
            box.setPrice(2, i);
            box.hold(i % 10, 1, 1, 0, 0, 60);
            box.confirm(i);
            box.refund(i, 0);
        }
        Check.due("28: 40", 40, () -> box.ledger(-1, -1));
        Check.due("28: the oldest", "1 0 0", () -> ledger(box).substring(0, 5));
        Check.due("28: kind", 3, () -> box.ledger(39, 0));
        Check.due("28: customer", 9, () -> box.ledger(39, 1));
        Check.due("28: amount", -19, () -> box.ledger(39, 2));
        box.hold(7, 1, 2, 0, 0, 60);
        box.confirm(20);
        Check.due("28: still 40", 40, () -> box.ledger(-1, 0));
        Check.due("28: the oldest has gone", 3, () -> box.ledger(0, 0));
        Check.due("28: the newest", 38, () -> box.ledger(39, 2));
        Check.range("28: 40", () -> box.ledger(40, 0));
        Check.range("28: column -1", () -> box.ledger(0, -1));
        Check.range("28: column 3", () -> box.ledger(39, 3));
        Check.due("28: the account knows all", 38, () -> box.account(7));
        box.undo();
        Check.due("28: undone", "1 0 0", () -> ledger(box).substring(0, 5));
        Check.due("28: replayed", true, box::isReplayed);
    }

    private static void reason() {
        Box box = new Box();
        Check.refused("29: nothing to do", 7, box, box::undo);
        Check.argument("29: another exception", () -> box.advance(0));
        Check.due("29: stays", 7, box::reason);
        box.addPerformance(10, 100);
        Check.due("29: stays after a command", 7, box::reason);
        Check.refused("29: no ticket", 5, box, () -> box.refund(0, 0));
        box.snapshot();
        Check.refused("29: no block", 1, box, () -> box.hold(0, 1, 8, 0, 0, 1));
        box.restore();
        Check.due("29: stays after restore", 1, box::reason);
        box.setRule(true);
        box.undo();
        Check.due("29: stays after undo", 1, box::reason);
        box.type("1");
        box.load();
        Check.due("29: stays after load", 1, box::reason);
    }

    private static void undo() {
        Box box = open(2);
        Check.due("30: undo", 1, box::undo);
        Check.due("30: undo", 0, box::undo);
        Check.refused("30: none left", 7, box, box::undo);
        Edge.Steps steps = Edge.at(1000, 2000).then(b -> b.hold(1, 3, 2, 0, 0, 60))
                .then(b -> b.hold(2, 1, 1, 0, 0, 20)).then(b -> b.confirm(0));
        Edge.Steps[] commands = {
            b -> b.addPerformance(3000, 100), b -> b.setPrice(2, 5), b -> b.setFocus(0),
            b -> b.setRule(false), b -> b.block(0, 0, 0, true), b -> b.advance(30),
            b -> b.hold(0, 1, 1, 0, 0, 1), b -> b.release(1), b -> b.confirm(1),
            b -> b.exchange(0, 0, 0), b -> b.refund(0, 1)};
        for (Edge.Steps command : commands) {
            Edge.Steps done = steps.then(command);
            Edge.Steps undone = done.then(Box::undo);
            Check.due("30: something changed", false, () -> Seen.present(steps).equals(Seen.present(done)));
            Check.due("30: undone", 5, () -> made(done).undo());
            alike("30: as before", steps, undone);
            Check.due("30: replayed", true, () -> made(undone).isReplayed());
            alike("30: done once more", done, undone.then(command));
            Check.due("30: numbers are given again", 2, () -> made(undone).hold(0, 1, 1, 0, 0, 1));
        }
        undoLimit();
    }

    private static void undoLimit() {
        Box box = open(1);
        for (int i = 1; i <= 12; i++) {
            box.setPrice(1, i);
        }
        for (int left = 7; left >= 5; left--) {
            int l = left;
            Check.due("30: left", l, box::undo);
        }
        box.setRule(false);
        box.setRule(true);
        Check.due("30: older ones do not come back", 6, box::undo);
        for (int left = 5; left >= 0; left--) {
            int l = left;
            Check.due("30: left", l, box::undo);
        }
        Check.refused("30: the others stay", 7, box, box::undo);
        Check.due("30: commands", 5, () -> box.count(7));
        Check.due("30: the price of then", 4, () -> box.setPrice(1, 0));
        Box typed = open(1);
        typed.append('1');
        typed.setRule(false);
        typed.append('1');
        typed.undo();
        Check.due("30: the buffer stays", 3, () -> typed.append('1'));
        Check.argument("30: malformed", () -> typed.advance(0));
        typed.snapshot();
        typed.setPrice(1, 1);
        typed.undo();
        Check.due("30: the snapshot stays", 0, typed::restore);
    }

    /** At least one of each command, and seats that are free, held, sold and blocked. */
    private static void commands(Box box) {
        box.type("22222222/2222wc11/11111111");
        box.load();
        box.addPerformance(100, 100);
        box.addPerformance(400, 120);
        box.addPerformance(500, 80);
        box.setFocus(2);
        box.setRule(false);
        box.setPrice(1, 999);
        box.block(1, 1, 1, true);
        box.block(1, 1, 2, true);
        box.block(1, 1, 2, false);
        box.hold(1, 7, 3, 0, 0, 30);
        box.hold(2, 2, 2, 1, 1, 30);
        box.hold(3, 6, 2, 2, 0, 5);
        box.hold(4, 6, 1, 0, 0, 60);
        box.confirm(0);
        box.advance(20);
        box.confirm(1);
        box.exchange(0, 0, 0);
        box.exchange(1, 1, 2);
        box.refund(0, 1);
        box.hold(5, 4, 1, 0, 0, 60);
        box.release(4);
    }

    private static void isReplayed() {
        Check.due("31: nothing", true, () -> new Box().isReplayed());
        Check.due("31: a hall", true, () -> hall("22222222/2222wc11/11111111").isReplayed());
        Edge.Steps steps = PromiseTest::commands;
        alike("31: the state stays", steps, steps.then(Box::isReplayed));
        Box box = made(steps);
        Check.due("31: all commands", true, box::isReplayed);
        Check.due("31: undo goes on", 7, box::undo);
        Check.due("31: after undo", true, box::isReplayed);
        box.snapshot();
        box.type("1");
        box.load();
        Check.due("31: after load", true, box::isReplayed);
        box.restore();
        Check.due("31: after restore", true, box::isReplayed);
    }

    private static void snapshot() {
        Edge.Steps steps = Edge.open("12/wc", 1000).then(b -> b.advance(3)).then(b -> b.hold(4, 1, 2, 0, 1, 60));
        Edge.Steps left = steps.then(Box::snapshot).then(b -> b.confirm(0)).then(b -> b.advance(4))
                .then(b -> b.setPrice(1, 8)).then(b -> b.append('1'));
        alike("32: the state stays", steps, steps.then(Box::snapshot));
        alike("33: all is back", steps, left.then(Box::restore));
        Edge.Steps other = left.then(Box::restore).then(b -> b.type("/1")).then(Box::load);
        alike("33: all is back again, with its hall", steps, other.then(Box::restore));
        Box box = made(steps);
        Check.refused("33: none", 7, box, box::restore);
        Check.due("32: time", 3, box::snapshot);
        Check.due("32: no command", 3, () -> box.count(7));
        box.confirm(0);
        Check.due("32: undo goes on", 3, box::undo);
        box.advance(4);
        box.append('1');
        Check.due("33: time", 3, box::restore);
        Check.refused("33: nothing to undo", 7, box, box::undo);
        Check.due("33: the buffer stays", 2, () -> box.append('x'));
        Check.argument("33: malformed", box::load);
        Check.due("33: replayed", true, box::isReplayed);
        box.setRule(false);
        Check.due("33: a new command can be undone", 0, box::undo);
        box.type("3");
        box.load();
        Check.due("33: again", 3, box::restore);
        Check.due("33: the error position stays", 1, box::errorPosition);
        laterSnapshot(box);
    }

    /** From the time 3 on. */
    private static void laterSnapshot(Box box) {
        box.advance(5);
        Check.due("32: a later one replaces it", 8, box::snapshot);
        box.advance(5);
        Check.due("33: the later one", 8, box::restore);
        box.setRule(false);
        box.snapshot();
        Check.due("32: what was done before can be undone", 0, box::undo);
        Check.due("33: the rule of the snapshot", 8, box::restore);
        Check.due("33: the rule of the snapshot", false, () -> box.setRule(true));
    }

    /** The calls that README.md shows. */
    private static void readme() {
        Box box = new Box();
        Check.due("README: evening", 0, () -> box.addPerformance(1200, 100));
        Check.due("README: hold", 0, () -> box.hold(3, 1, 2, 0, 0, 30));
        Check.due("README: row", 1, () -> box.heldBy(0, 2));
        Check.due("README: paid", 6000, () -> box.confirm(0));
        box.advance(1100);
        Check.due("README: back", 3000, () -> box.refund(0, 0));
        Check.due("README: kept", 3000, () -> box.performance(0, 2));
        Check.due("README: left", 4, box::undo);
        Check.due("README: the ticket is back", 6000, () -> box.ticket(0, 0, 4));
        Check.due("README: another hall", 6, () -> hall("11w/2c2").count(6));
    }

    public static void main(String[] args) {
        readme();
        newObject();
        append();
        load();
        errorPosition();
        place();
        addPerformance();
        setPrice();
        setFocus();
        setRule();
        block();
        state();
        advance();
        blockCount();
        best();
        hold();
        release();
        confirm();
        heldBy();
        ticket();
        exchange();
        refund();
        performance();
        account();
        soldShare();
        meanAmount();
        count();
        ledgerLimit();
        reason();
        undo();
        isReplayed();
        snapshot();
        Check.end("PromiseTest");
    }
}
