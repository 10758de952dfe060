/** The edges of blocks, orphans and the best block, and of the promises 14 and 15. */
final class BlockEdges {
    private static final int MIN = Integer.MIN_VALUE;
    private static final int MAX = Integer.MAX_VALUE;
    private static final String LARGEST = Edge.rows(8, "1".repeat(12));

    private BlockEdges() {
    }

    static void run() {
        neighbors();
        seatsThatAreFree();
        category();
        accessible();
        companions();
        exactlyOne();
        leftOrphans();
        orphansOfSets();
        rightOrphans();
        zeroToTwo();
        fewestOrphans();
        leastSum();
        lowestPlace();
        bitMask();
        blockCount();
        sets();
        requests();
        best();
        bestThrows();
    }

    private static void counted(int due, String map, int seats, int kind) {
        Edge.asked(due, Edge.open(map, 5000), b -> b.blockCount(1, seats, 0, kind));
    }

    private static void neighbors() {
        Edge.sentence("Description", "A block is a number of neighboring places of a row, from a first column on.");
        counted(1, "1", 1, 0);
        counted(0, "1", 2, 0);
        counted(2, "11/11", 2, 0);
        counted(0, "11/11", 3, 0);
        counted(0, "1.1", 2, 0);
        counted(2, "1.1", 1, 0);
        counted(0, "1/1", 2, 0);
        counted(0, "1111111", 8, 0);
        counted(1, "11111111", 8, 0);
        counted(5, "111111111111", 8, 0);
        counted(12, "111111111111", 1, 0);
        counted(40, LARGEST, 8, 0);
        counted(96, LARGEST, 1, 0);
        Edge.asked(0, Edge.open("....22", 9), b -> b.best(1, 2, 0, 0, 0));
        Edge.asked(4, Edge.open("....22", 9), b -> b.best(1, 2, 0, 0, 1));
        Edge.asked(4, Edge.open("....22222222", 9), b -> b.best(1, 8, 0, 0, 1));
    }

    private static void seatsThatAreFree() {
        Edge.sentence("Description", "a seat that is free in all these performances");
        counted(0, ".", 1, 0);
        counted(2, "11.11", 2, 0);
        Edge.Steps three = Edge.open("222", 100, 200, 300);
        free(three.then(b -> b.block(1, 0, 1, true)));
        Edge.Steps held = three.then(b -> b.setRule(false)).then(b -> b.hold(0, 2, 1, 0, 0, 60));
        free(held);
        free(held.then(b -> b.confirm(0)));
        Edge.Steps again = held.then(b -> b.release(0));
        Edge.asked(3, again, b -> b.blockCount(7, 1, 0, 0));
        Edge.Steps blocked = three.then(b -> b.block(1, 0, 1, true)).then(b -> b.block(2, 0, 0, true));
        Edge.asked(1, blocked, b -> b.blockCount(7, 1, 0, 0));
        Edge.asked(0, blocked.then(b -> b.block(0, 0, 2, true)), b -> b.blockCount(7, 1, 0, 0));
        Edge.asked(2, blocked.then(b -> b.block(0, 0, 2, true)), b -> b.blockCount(1, 1, 0, 0));
    }

    /** The middle one of three seats is not free in the second of three performances. */
    private static void free(Edge.Steps steps) {
        int[] single = {0, 3, 2, 2, 3, 3, 2, 2};
        int[] pairs = {0, 2, 0, 0, 2, 2, 0, 0};
        for (int set = 1; set <= 7; set++) {
            int s = set;
            Edge.asked(single[s], steps, b -> b.blockCount(s, 1, 0, 0));
            Edge.asked(pairs[s], steps, b -> b.blockCount(s, 2, 0, 0));
        }
    }

    private static void category() {
        Edge.sentence("Description", "and has this category");
        int[] counts = {8, 4, 4, 0, 0};
        for (int category = 0; category <= 4; category++) {
            int c = category;
            Edge.asked(c == 0 ? 4 : 1, Edge.open("1234", 9), b -> b.blockCount(1, 1, c, 0));
            Edge.asked(c == 0 ? 3 : 0, Edge.open("1234", 9), b -> b.blockCount(1, 2, c, 0));
            Edge.asked(counts[c], Edge.open("11.22/21212", 9).then(b -> b.block(0, 1, 4, true)),
                    b -> b.blockCount(1, 1, c, 0));
        }
        Edge.asked(1, Edge.open("1w", 9), b -> b.blockCount(1, 2, 1, 1));
        Edge.asked(1, Edge.open("cw", 9), b -> b.blockCount(1, 2, 1, 1));
        Edge.asked(0, Edge.open("2w", 9), b -> b.blockCount(1, 2, 1, 1));
        Edge.asked(0, Edge.open("2w", 9), b -> b.blockCount(1, 2, 2, 1));
        Edge.asked(1, Edge.open("2w", 9), b -> b.blockCount(1, 2, 0, 1));
        Edge.asked(1, Edge.open("c2", 9), b -> b.blockCount(1, 1, 1, 0));
        Edge.asked(1, Edge.open("c2", 9), b -> b.blockCount(1, 1, 2, 0));
    }

    private static void accessible() {
        Edge.sentence("Description", "for the kind 0, accessible places are not allowed");
        counted(0, "w", 1, 0);
        counted(2, "1w1", 1, 0);
        counted(0, "1w1", 2, 0);
        counted(2, "11w11", 2, 0);
        Edge.asked(0, Edge.open("w", 10).then(b -> b.advance(10)), b -> b.blockCount(1, 1, 0, 0));
        Edge.asked(0, Edge.open("w", 10), b -> b.blockCount(1, 1, 1, 0));
        Edge.sentence("Description", "for the kind 1, all seats are allowed");
        counted(1, "w", 1, 1);
        counted(1, "wc", 2, 1);
        counted(1, "cwc", 3, 1);
        counted(2, "1w2c", 2, 1);
        counted(2, "1w2c", 3, 1);
        counted(1, "1w2c", 4, 1);
        counted(0, "1w.c", 3, 1);
        counted(1, "111111wc", 8, 1);
        Edge.asked(0, Edge.open("wc", 9).then(b -> b.block(0, 0, 1, true)), b -> b.blockCount(1, 2, 0, 1));
    }

    private static void companions() {
        Edge.sentence("Description", "companion seats only if all these performances start within the next 60 minutes, "
                + "that is, if their starts are at most the time plus 60, also if they have started");
        Edge.Steps steps = Edge.open("c", 60, 61, 1000);
        companions(steps, 1, 0, 0, 0, 0, 0, 0);
        companions(steps.then(b -> b.advance(1)), 1, 1, 1, 0, 0, 0, 0);
        companions(steps.then(b -> b.advance(60)), 1, 1, 1, 0, 0, 0, 0);
        companions(steps.then(b -> b.advance(939)), 1, 1, 1, 0, 0, 0, 0);
        companions(steps.then(b -> b.advance(940)), 1, 1, 1, 1, 1, 1, 1);
        companions(steps.then(b -> b.advance(1000)), 1, 1, 1, 1, 1, 1, 1);
        companions(steps.then(b -> b.advance(5000)), 1, 1, 1, 1, 1, 1, 1);
        Edge.asked(0, Edge.open("c", 100000).then(Edge.until(99939)), b -> b.blockCount(1, 1, 0, 0));
        Edge.asked(1, Edge.open("c", 100000).then(Edge.until(99940)), b -> b.blockCount(1, 1, 0, 0));
        Edge.asked(1, Edge.open("c", 100000).then(Edge.until(100000)), b -> b.blockCount(1, 1, 0, 0));
        Edge.asked(3, Edge.open("1c1", 60), b -> b.blockCount(1, 1, 0, 0));
        Edge.asked(1, Edge.open("1c1", 60), b -> b.blockCount(1, 3, 0, 0));
        Edge.asked(0, Edge.open("1c1", 61), b -> b.blockCount(1, 3, 0, 0));
        Edge.asked(2, Edge.open("1c1", 61), b -> b.blockCount(1, 1, 0, 0));
        Edge.due(0, steps, b -> b.hold(0, 1, 1, 0, 0, 1));
        Edge.refused(1, steps, b -> b.hold(0, 2, 1, 0, 0, 1));
    }

    private static void companions(Edge.Steps steps, int... counts) {
        for (int set = 1; set <= 7; set++) {
            int s = set;
            Edge.asked(counts[s - 1], steps, b -> b.blockCount(s, 1, 0, 0));
        }
    }

    private static void exactlyOne() {
        Edge.sentence("Description", "but exactly one place of the block must be an accessible place");
        counted(0, "1", 1, 1);
        counted(0, "c", 1, 1);
        counted(0, "1111", 3, 1);
        counted(2, "ww", 1, 1);
        counted(0, "ww", 2, 1);
        counted(2, "w1w", 1, 1);
        counted(2, "w1w", 2, 1);
        counted(0, "w1w", 3, 1);
        counted(2, "w11w", 2, 1);
        counted(2, "w11w", 3, 1);
        counted(0, "w11w", 4, 1);
        Edge.asked(0, Edge.open("w1", 9).then(b -> b.block(0, 0, 0, true)), b -> b.blockCount(1, 1, 0, 1));
        Edge.asked(1, Edge.open("ww", 9).then(b -> b.block(0, 0, 0, true)), b -> b.blockCount(1, 1, 0, 1));
        Edge.asked(0, Edge.open("ww", 9).then(b -> b.block(0, 0, 0, true)), b -> b.blockCount(1, 2, 0, 1));
    }

    /** In these maps one seat has the category 2, so that its block is the best one of that category. */
    private static void orphans(int due, String map) {
        Edge.asked(due, Edge.open(map, 5000), b -> b.best(1, 1, 2, 0, 3));
    }

    private static void orphans(int due, Edge.Steps steps, int set) {
        Edge.asked(due, steps, b -> b.best(set, 1, 2, 0, 3));
    }

    private static void leftOrphans() {
        Edge.sentence("Description", "A block leaves an orphan on its left side if the place before it is a seat that "
                + "is free in one of these performances, and the place before that is not a seat that is free in this "
                + "performance, or is outside of the row");
        orphans(0, "2");
        orphans(1, "12");
        orphans(0, "112");
        orphans(0, "1112");
        orphans(1, ".12");
        orphans(0, ".2");
        orphans(0, "1.2");
        orphans(0, "..2");
        orphans(1, "w2");
        orphans(1, "c2");
        orphans(0, "wc2");
        orphans(0, "cw2");
        orphans(1, "1.w2");
        orphans(0, "..../1112");
        Edge.Steps steps = Edge.open("112", 5000);
        orphans(1, steps.then(b -> b.block(0, 0, 0, true)), 1);
        orphans(0, steps.then(b -> b.block(0, 0, 1, true)), 1);
        orphans(0, steps.then(b -> b.block(0, 0, 0, true)).then(b -> b.block(0, 0, 1, true)), 1);
        Edge.Steps held = Edge.open("312", 5000).then(b -> b.hold(0, 1, 1, 3, 0, 60));
        orphans(1, held, 1);
        orphans(1, held.then(b -> b.confirm(0)), 1);
        orphans(0, held.then(b -> b.release(0)), 1);
        Edge.Steps beside = Edge.open("132", 5000).then(b -> b.hold(0, 1, 1, 3, 0, 60));
        orphans(0, beside, 1);
        orphans(0, beside.then(b -> b.confirm(0)), 1);
        orphans(0, beside.then(b -> b.advance(60)), 1);
    }

    private static void orphansOfSets() {
        Edge.sentence("Description", "is not a seat that is free in this performance, or is outside of the row; in the");
        Edge.Steps two = Edge.open("112", 5000, 6000);
        orphans(0, two, 3);
        Edge.Steps behind = two.then(b -> b.block(0, 0, 0, true));
        orphans(1, behind, 1);
        orphans(0, behind, 2);
        orphans(1, behind, 3);
        Edge.Steps both = behind.then(b -> b.block(0, 0, 1, true));
        orphans(0, both, 1);
        orphans(0, both, 2);
        orphans(0, both, 3);
        Edge.Steps crossed = two.then(b -> b.block(0, 0, 1, true)).then(b -> b.block(1, 0, 0, true));
        orphans(0, crossed, 1);
        orphans(1, crossed, 2);
        orphans(1, crossed, 3);
        Edge.Steps edge = Edge.open("12", 5000, 6000);
        orphans(1, edge, 3);
        orphans(1, edge.then(b -> b.block(1, 0, 0, true)), 3);
        orphans(0, edge.then(b -> b.block(1, 0, 0, true)), 2);
        Edge.Steps six = Edge.open("112", 5000, 6000, 7000, 8000, 9000, 9999);
        orphans(1, six.then(b -> b.block(5, 0, 0, true)), 63);
        orphans(0, six.then(b -> b.block(5, 0, 0, true)), 31);
        orphans(1, six.then(b -> b.block(5, 0, 0, true)), 32);
    }

    private static void rightOrphans() {
        Edge.sentence("Description", "in the same way on its right side");
        orphans(1, "21");
        orphans(0, "211");
        orphans(1, "21.");
        orphans(0, "2.");
        orphans(0, "2.1");
        orphans(1, "2w");
        orphans(1, "2c.1");
        orphans(0, "2cw");
        orphans(1, ".".repeat(10) + "21");
        orphans(0, ".".repeat(11) + "2");
        orphans(0, "...2/1111");
        Edge.Steps steps = Edge.open("211", 5000, 6000);
        orphans(1, steps.then(b -> b.block(0, 0, 2, true)), 1);
        orphans(0, steps.then(b -> b.block(0, 0, 1, true)), 1);
        orphans(0, steps.then(b -> b.block(0, 0, 2, true)), 2);
        orphans(1, steps.then(b -> b.block(0, 0, 2, true)), 3);
        orphans(0, steps.then(b -> b.block(0, 0, 2, true)).then(b -> b.block(0, 0, 1, true)), 3);
        orphans(1, steps.then(b -> b.block(0, 0, 2, true)).then(b -> b.block(1, 0, 1, true)), 3);
        Edge.asked(1, Edge.open("221", 9), b -> b.best(1, 2, 2, 0, 3));
        Edge.asked(0, Edge.open("2211", 9), b -> b.best(1, 2, 2, 0, 3));
        Edge.asked(1, Edge.open("111222222221", 9), b -> b.best(1, 8, 2, 0, 3));
    }

    private static void zeroToTwo() {
        Edge.sentence("Description", "so a block leaves 0 to 2 orphans, whether the orphan rule applies or not");
        String[] maps = {"11211", "1211", "1121", "121", ".121.", "w2c"};
        int[] due = {0, 1, 1, 2, 2, 2};
        for (int i = 0; i < maps.length; i++) {
            orphans(due[i], maps[i]);
            orphans(due[i], Edge.open(maps[i], 5000).then(b -> b.setRule(false)), 1);
            orphans(due[i], Edge.open(maps[i], 5000, 6000).then(b -> b.setRule(false)), 3);
        }
        Edge.Steps two = Edge.open("11211", 5000, 6000);
        orphans(2, two.then(b -> b.block(0, 0, 0, true)).then(b -> b.block(1, 0, 4, true)), 3);
        orphans(2, two.then(b -> b.block(0, 0, 0, true)).then(b -> b.block(0, 0, 4, true))
                .then(b -> b.block(1, 0, 0, true)).then(b -> b.block(1, 0, 4, true)), 3);
    }

    /** Row and first column of the best block, as ten times the row plus the column. */
    private static void bestAt(int due, Edge.Steps steps, int seats) {
        Edge.asked(due, steps, b -> 10 * b.best(1, seats, 0, 0, 0) + b.best(1, seats, 0, 0, 1));
    }

    private static Edge.Steps open(String map) {
        return Edge.open(map, 5000);
    }

    private static Edge.Steps free(String map) {
        return open(map).then(b -> b.setRule(false));
    }

    private static void fewestOrphans() {
        Edge.sentence("Description", "With the orphan rule, the best block is the one with the fewest orphans");
        bestAt(0, open("22222"), 2);
        Edge.asked(6, open("22222"), b -> b.best(1, 2, 0, 0, 2));
        bestAt(1, free("22222"), 2);
        bestAt(10, open("2222/22../...."), 2);
        bestAt(10, open("222/22./222"), 2);
        bestAt(0, open("22./222/222"), 2);
        bestAt(11, free("22./222/222").then(b -> b.block(0, 1, 0, true)), 2);
        bestAt(5, open("2222222222.2/............/............/222........."), 1);
        bestAt(70, open(Edge.rows(7, "2.22") + "/22..").then(b -> b.setFocus(0)).then(BlockEdges::blockSingles), 2);
    }

    /** Leaves a pair with an orphan in each row but the last one. */
    private static void blockSingles(Box box) {
        for (int row = 0; row < 7; row++) {
            box.block(0, row, 2, true);
        }
    }

    private static void leastSum() {
        Edge.sentence("Description", "or without the rule, the one with the least sum of the distances of its places");
        bestAt(2, free("22222"), 1);
        bestAt(1, free("22222"), 3);
        bestAt(12, free("22222/22222/22222"), 1);
        bestAt(2, free("22222/22222/22222").then(b -> b.setFocus(0)), 1);
        bestAt(22, free("22222/22222/22222").then(b -> b.setFocus(2)), 1);
        bestAt(2, open("22222"), 1);
        bestAt(8, open("22...2..2222"), 2);
        bestAt(8, free("22...2..2222"), 2);
        Edge.asked(0, free("22222"), b -> b.best(1, 1, 0, 0, 2));
        Edge.asked(4, free("22222"), b -> b.best(1, 3, 0, 0, 2));
        Edge.asked(1 + 1 + 3 + 3 + 5 + 5 + 7 + 7 + 8 * 28, free(LARGEST).then(b -> b.setFocus(0))
                .then(BlockEdges::blockAllButTheLastRow), b -> b.best(1, 8, 0, 0, 2));
    }

    private static void blockAllButTheLastRow(Box box) {
        for (int row = 0; row < 7; row++) {
            for (int column = 0; column < 12; column++) {
                box.block(0, row, column, true);
            }
        }
    }

    private static void lowestPlace() {
        Edge.sentence("Description", "of several, the one in the lowest row, and then with the lowest first column");
        bestAt(0, open("2/./2"), 1);
        bestAt(0, free("2/./2"), 1);
        bestAt(2, open("..2/.../2.."), 1);
        bestAt(2, free("..2/.../2.."), 1);
        bestAt(21, free("2../.../.2."), 1);
        bestAt(0, open("2.2"), 1);
        bestAt(0, free("2.2"), 1);
        bestAt(0, free("22.22"), 2);
        bestAt(1, free("2222"), 1);
        bestAt(0, open("222"), 2);
        bestAt(0, open("2/2").then(b -> b.setFocus(0)), 1);
        bestAt(10, open("2/2"), 1);
        bestAt(0, open("2/2/2").then(b -> b.block(0, 1, 0, true)), 1);
    }

    private static void bitMask() {
        Edge.sentence("Description", "A set of performances is a bit mask, in which bit p stands for the performance "
                + "p.");
        Edge.Steps six = Edge.open("22", 5000, 6000, 7000, 8000, 9000, 9999);
        for (int p = 0; p < 6; p++) {
            int q = p;
            Edge.Steps blocked = six.then(b -> b.block(q, 0, 0, true));
            for (int other = 0; other < 6; other++) {
                int o = other;
                Edge.asked(o == q ? 1 : 2, blocked, b -> b.blockCount(1 << o, 1, 0, 0));
            }
            Edge.asked(2, blocked, b -> b.blockCount(63 & ~(1 << q), 1, 0, 0));
            Edge.asked(1, blocked, b -> b.blockCount(63, 1, 0, 0));
            Edge.asked(1, six.then(b -> b.hold(0, 1 << q, 1, 0, 0, 60)), b -> b.performance(q, 4));
            Edge.asked(0, six.then(b -> b.hold(0, 63 & ~(1 << q), 1, 0, 0, 60)), b -> b.performance(q, 4));
        }
    }

    // Promises 14 and 15

    private static void blockCount() {
        Edge.sentence("Promise 14", "Returns how many blocks fit a request.");
        Edge.asked(0, open("."), b -> b.blockCount(1, 1, 0, 0));
        Edge.asked(18, Edge.at(9), b -> b.blockCount(1, 1, 0, 0));
        Edge.asked(3, Edge.at(9), b -> b.blockCount(1, 6, 0, 0));
        Edge.asked(0, Edge.at(9), b -> b.blockCount(1, 7, 0, 0));
        Edge.asked(96, open(LARGEST), b -> b.blockCount(1, 1, 1, 0));
        Edge.asked(18, Edge.at(9).then(b -> b.advance(9)), b -> b.blockCount(1, 1, 0, 0));
        Edge.asked(0, Edge.at(9).then(Edge.times(3, b -> b.hold(0, 1, 6, 0, 0, 60))), b -> b.blockCount(1, 1, 0, 0));
        Edge.sentence("Promise 14", "- `seats`: the number of seats, 1 to 8");
        Edge.asked(8, open("11111111"), b -> b.blockCount(1, 1, 0, 0));
        Edge.asked(1, open("11111111"), b -> b.blockCount(1, 8, 0, 0));
        Edge.sentence("Promise 14", "- `category`: the category, 0 to 4");
        Edge.asked(3, open("144"), b -> b.blockCount(1, 1, 0, 0));
        Edge.asked(2, open("144"), b -> b.blockCount(1, 1, 4, 0));
        Edge.sentence("Promise 14", "- `kind`: the kind, 0 or 1");
        Edge.asked(2, open("11w"), b -> b.blockCount(1, 1, 0, 0));
        Edge.asked(1, open("11w"), b -> b.blockCount(1, 1, 0, 1));
    }

    private static void sets() {
        Edge.sentence("Promise 14", "Throws `IndexOutOfBoundsException` if the set is empty or contains something that "
                + "is no performance");
        for (int n = 0; n <= 6; n++) {
            Edge.Steps steps = Edge.times(n, Edge.at(9));
            int none = 1 << n;
            for (int set : new int[] {0, none, none + 1, none << 1, 2 * none - 1, -1, MIN, MIN + 1, MAX, -none}) {
                Edge.range(steps, b -> b.blockCount(set, 1, 0, 0));
                Edge.range(steps, b -> b.blockCount(set, 0, 5, 2));
            }
            if (n > 0) Edge.asked(18, steps, b -> b.blockCount(none - 1, 1, 0, 0));
            if (n > 0) Edge.asked(18, steps, b -> b.blockCount(none >> 1, 1, 0, 0));
        }
        Edge.range(Edge.at(9).then(Edge.hall("1")), b -> b.blockCount(1, 1, 0, 0));
        Edge.range(Edge.at(9).then(Box::undo), b -> b.blockCount(1, 1, 0, 0));
        Edge.sentence("Promise 15", "Throws `IndexOutOfBoundsException` as for blockCount");
        for (int set : new int[] {0, 4, 5, 8, 64, -1, MIN, MAX}) {
            Edge.range(Edge.at(9, 10), b -> b.best(set, 1, 0, 0, 0));
            Edge.range(Edge.at(9, 10), b -> b.best(set, 9, 0, 0, 5));
        }
        Edge.range(Edge.NEW, b -> b.best(1, 1, 0, 0, 0));
    }

    private static final int[][] WRONG = {{0, 0, 0}, {9, 0, 0}, {-1, 0, 0}, {MIN, 0, 0}, {MAX, 0, 0}, {1, -1, 0},
        {1, 5, 0}, {1, MIN, 0}, {1, MAX, 0}, {1, 0, -1}, {1, 0, 2}, {1, 0, MIN}, {1, 0, MAX}, {0, 5, 2}};

    private static void requests() {
        Edge.sentence("Promise 14", "Throws `IllegalArgumentException` if another number is out of range");
        for (int[] w : WRONG) {
            Edge.argument(Edge.at(9), b -> b.blockCount(1, w[0], w[1], w[2]));
            Edge.argument(open("."), b -> b.blockCount(1, w[0], w[1], w[2]));
        }
        Edge.sentence("Promise 15", "Throws `IllegalArgumentException` as for blockCount, or if what is out of range");
        for (int[] w : WRONG) {
            Edge.argument(Edge.at(9), b -> b.best(1, w[0], w[1], w[2], 0));
            Edge.argument(open("."), b -> b.best(1, w[0], w[1], w[2], 0));
        }
        for (int what : new int[] {-1, 5, MIN, MAX}) {
            Edge.argument(Edge.at(9), b -> b.best(1, 1, 0, 0, what));
            Edge.argument(open("."), b -> b.best(1, 1, 0, 0, what));
            Edge.argument(Edge.at(9), b -> b.best(1, 7, 0, 0, what));
        }
    }

    private static void best() {
        Edge.sentence("Promise 15", "- `what`: 0 for its row, 1 for its first column, 2 for the sum of its distances, "
                + "3 for its number of orphans, 4 for the sum of the prices of its seats in all these performances");
        Edge.Steps steps = Edge.open("....../...121/......", 500).then(b -> b.addPerformance(600, 33))
                .then(b -> b.setPrice(2, 101));
        int[] due = {1, 4, 3, 2, 101 + 33};
        for (int what = 0; what <= 4; what++) {
            int w = what;
            Edge.asked(due[w], steps, b -> b.best(3, 1, 2, 0, w));
        }
        Edge.asked(101, steps, b -> b.best(1, 1, 2, 0, 4));
        Edge.asked(33, steps, b -> b.best(2, 1, 2, 0, 4));
        Edge.asked(4000 + 101 + 4000 + 1320 + 33 + 1320, steps, b -> b.best(3, 3, 0, 0, 4));
        Edge.asked(3 * 8 * 300000 * 2, Edge.hall("22222222").then(Edge.times(6, b -> b.addPerformance(9, 300)))
                .then(b -> b.setPrice(2, 100000)), b -> b.best(63, 8, 0, 0, 4));
        Edge.asked(0, Edge.at(9).then(b -> b.setPrice(2, 0)), b -> b.best(1, 6, 0, 0, 4));
        Edge.asked(9000, Edge.at(9, 9, 9), b -> b.best(7, 1, 0, 0, 4));
        Edge.sentence("Promise 15", "- `seats`: the number of seats, 1 to 8");
        Edge.asked(0, open("22222222"), b -> b.best(1, 8, 0, 0, 1));
        Edge.asked(0, open("2"), b -> b.best(1, 1, 0, 0, 1));
        Edge.sentence("Promise 15", "- `category`: the category, 0 to 4");
        Edge.asked(2, open("1234"), b -> b.best(1, 1, 3, 0, 1));
        Edge.asked(3, open("1234"), b -> b.best(1, 1, 4, 0, 1));
        Edge.asked(0, open("1..4"), b -> b.best(1, 1, 0, 0, 1));
        Edge.sentence("Promise 15", "- `kind`: the kind, 0 or 1");
        Edge.asked(0, open("2w"), b -> b.best(1, 1, 0, 0, 1));
        Edge.asked(1, open("2w"), b -> b.best(1, 1, 0, 1, 1));
    }

    private static void bestThrows() {
        Edge.sentence("Promise 15", "Throws `NoSuchElementException` if no block fits");
        for (int what = 0; what <= 4; what++) {
            int w = what;
            Edge.missing(Edge.at(9), b -> b.best(1, 7, 0, 0, w));
            Edge.missing(Edge.at(9), b -> b.best(1, 1, 1, 0, w));
            Edge.missing(Edge.at(9), b -> b.best(1, 1, 0, 1, w));
            Edge.missing(open("."), b -> b.best(1, 1, 0, 0, w));
        }
        Edge.missing(open("2").then(b -> b.block(0, 0, 0, true)), b -> b.best(1, 1, 0, 0, 0));
        Edge.missing(open("2").then(b -> b.hold(0, 1, 1, 0, 0, 1)), b -> b.best(1, 1, 0, 0, 0));
        Edge.missing(open("2").then(Edge.sold(0, 1, 1)), b -> b.best(1, 1, 0, 0, 0));
        Edge.asked(0, open("2").then(b -> b.hold(0, 1, 1, 0, 0, 1)).then(b -> b.advance(1)),
                b -> b.best(1, 1, 0, 0, 0));
        Edge.Steps two = Edge.open("22", 9, 9).then(b -> b.block(0, 0, 0, true)).then(b -> b.block(1, 0, 1, true));
        Edge.missing(two, b -> b.best(3, 1, 0, 0, 0));
        Edge.asked(1, two, b -> b.best(1, 1, 0, 0, 1));
    }
}
