import java.util.ArrayList;
import java.util.IdentityHashMap;
import java.util.List;
import java.util.Map;

/**
 * All that can be seen of a box office that some steps lead to, as a text, so that two states can be
 * compared. The steps are made anew on fresh objects, so that no object answers too many questions.
 */
final class Seen {
    private static final int QUESTIONS_EACH = 100;
    private static final Map<Edge.Steps, String> KNOWN = new IdentityHashMap<>();

    private Seen() {
    }

    private static Box made(Edge.Steps steps) {
        Box box = new Box();
        steps.on(box);
        return box;
    }

    /** Everything but the reason: the state, the buffer, the error position, what undo and restore lead to. */
    static String whole(Edge.Steps steps) {
        String known = KNOWN.get(steps);
        if (known == null) {
            known = office(steps) + buffer(steps) + Edge.outcome(made(steps), Box::errorPosition);
            KNOWN.put(steps, known);
        }
        return known;
    }

    /** As above, without the buffer and the error position, which load changes even if it throws. */
    static String office(Edge.Steps steps) {
        StringBuilder text = new StringBuilder(present(steps));
        Edge.Steps back = steps;
        for (int n = 1; n <= 9; n++) {
            String left = Edge.outcome(made(back), Box::undo);
            text.append("\nundo ").append(left);
            if (left.equals("IllegalStateException")) break;
            back = back.then(Box::undo);
            text.append(present(back));
        }
        String time = Edge.outcome(made(steps), Box::restore);
        text.append("\nrestore ").append(time);
        if (!time.equals("IllegalStateException")) {
            Edge.Steps restored = steps.then(Box::restore);
            text.append(present(restored)).append(Edge.outcome(made(restored), Box::undo));
        }
        return text.toString();
    }

    private static String buffer(Edge.Steps steps) {
        Box box = made(steps);
        String size = Edge.outcome(made(steps), b -> b.append('1'));
        String seats = Edge.outcome(box, Box::load);
        return "\nbuffer " + size + ' ' + seats + ' ' + Edge.outcome(box, Box::errorPosition) + '\n';
    }

    /** The state alone, without what undo and restore lead to. */
    static String present(Edge.Steps steps) {
        List<Edge.Ask> questions = questions(made(steps));
        StringBuilder text = new StringBuilder(settings(made(steps)));
        Box box = made(steps);
        for (int i = 0; i < questions.size(); i++) {
            if (i % QUESTIONS_EACH == QUESTIONS_EACH - 1) box = made(steps);
            text.append(Edge.outcome(box, questions.get(i))).append(' ');
        }
        return text.toString();
    }

    /** What only a command tells. */
    private static String settings(Box box) {
        StringBuilder text = new StringBuilder("\n");
        text.append(box.setRule(true)).append(' ').append(box.setFocus(0)).append(' ');
        for (int category = 1; category <= 4; category++) {
            text.append(box.setPrice(category, 0)).append(' ');
        }
        return text.toString();
    }

    private static List<Edge.Ask> questions(Box box) {
        List<Edge.Ask> list = new ArrayList<>();
        int rows = 0;
        int columns = 0;
        while (has(box, rows, 0)) rows++;
        while (has(box, 0, columns)) columns++;
        int performances = box.count(1);
        for (int what = 0; what <= 7; what++) {
            int w = what;
            list.add(b -> b.count(w));
        }
        for (int customer = 0; customer <= 9; customer++) {
            int c = customer;
            list.add(b -> b.account(c));
        }
        for (int i = 0; i < box.ledger(-1, 0); i++) {
            int n = i;
            for (int column = 0; column <= 2; column++) {
                int c = column;
                list.add(b -> b.ledger(n, c));
            }
        }
        list.add(Box::meanAmount);
        list.add(Box::isReplayed);
        addPlaces(list, rows, columns, performances);
        for (int p = 0; p < performances; p++) {
            addPerformance(list, p);
        }
        if (performances > 1) addBest(list, (1 << performances) - 1);
        addNumbers(list, box.count(5), performances);
        return list;
    }

    private static boolean has(Box box, int row, int column) {
        return !Edge.outcome(box, b -> b.place(row, column, 0)).equals("IndexOutOfBoundsException");
    }

    private static void addPlaces(List<Edge.Ask> list, int rows, int columns, int performances) {
        for (int row = 0; row < rows; row++) {
            for (int column = 0; column < columns; column++) {
                int r = row;
                int c = column;
                list.add(b -> b.place(r, c, 0));
                list.add(b -> b.place(r, c, 1));
                list.add(b -> b.place(r, c, 2));
                for (int p = 0; p < performances; p++) {
                    int q = p;
                    list.add(b -> b.state(q, r, c));
                    list.add(b -> b.holder(q, r, c));
                }
            }
        }
    }

    private static void addPerformance(List<Edge.Ask> list, int performance) {
        for (int what = 0; what <= 7; what++) {
            int w = what;
            list.add(b -> b.performance(performance, w));
        }
        list.add(b -> b.soldShare(performance));
        addBest(list, 1 << performance);
    }

    private static void addBest(List<Edge.Ask> list, int set) {
        for (int seats = 1; seats <= 3; seats++) {
            int s = seats;
            for (int kind = 0; kind <= 1; kind++) {
                int k = kind;
                list.add(b -> b.blockCount(set, s, 0, k));
                list.add(b -> 100 * b.best(set, s, 0, k, 0) + b.best(set, s, 0, k, 1));
                list.add(b -> 100 * b.best(set, s, 0, k, 2) + b.best(set, s, 0, k, 3));
            }
        }
    }

    private static void addNumbers(List<Edge.Ask> list, int made, int performances) {
        for (int number = 0; number < made; number++) {
            int n = number;
            for (int what = 0; what <= 5; what++) {
                int w = what;
                list.add(b -> b.heldBy(n, w));
            }
            for (int p = 0; p < performances; p++) {
                int q = p;
                for (int what = 0; what <= 4; what++) {
                    int w = what;
                    list.add(b -> b.ticket(n, q, w));
                }
            }
        }
    }
}
