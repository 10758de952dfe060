import java.lang.reflect.InvocationTargetException;
import java.lang.reflect.Method;
import java.util.ArrayList;
import java.util.HashMap;
import java.util.List;
import java.util.Map;

/** Long runs of calls made by a fixed sequence of numbers; the program must answer as the model does. */
public final class RandomRunsTest {
    private static final int RUNS = 2000;
    private static final int CALLS = 512;
    private static final Map<String, Method> REAL = methods(TheatreBoxOffice.class);
    private static final Map<String, Method> MODEL = methods(Model.class);

    private long seed;
    private int room;
    private int calls;
    private final Map<String, Integer> seen = new HashMap<>();

    private static Map<String, Method> methods(Class<?> type) {
        Map<String, Method> map = new HashMap<>();
        for (Method m : type.getDeclaredMethods()) {
            if (java.lang.reflect.Modifier.isPublic(m.getModifiers())) map.put(m.getName(), m);
        }
        return map;
    }

    private static String ask(Method method, Object target, Object[] args) {
        try {
            return String.valueOf(method.invoke(target, args));
        } catch (InvocationTargetException e) {
            return e.getCause().getClass().getSimpleName();
        } catch (IllegalAccessException e) {
            throw new AssertionError(e);
        }
    }

    /** A number from 0 to n - 1. */
    private int any(int n) {
        seed = seed * 6364136223846793005L + 1442695040888963407L;
        return (int) ((seed >>> 33) % n);
    }

    private int from(int low, int high) {
        return low + any(high - low + 1);
    }

    private boolean once(int n) {
        return any(n) == 0;
    }

    /** A number in a range, or now and then one at its edges, beyond them or far away. */
    private int near(int low, int high) {
        if (!once(12)) return from(low, high);
        int[] odd = {low - 1, low, high, high + 1, Integer.MIN_VALUE, Integer.MAX_VALUE, -1, 0};
        return odd[any(odd.length)];
    }

    private Object[] of(Object... args) {
        return args;
    }

    private String map() {
        int rows = once(15) ? from(1, 10) : from(1, 8);
        int columns = once(15) ? from(1, 14) : room == 0 ? from(8, 12) : from(1, 12);
        String signs = new String[] {"22222222.wc1", "1234wc.", "111wwcc.", "1", "."}[once(12) ? any(5) : any(3)];
        StringBuilder text = new StringBuilder();
        for (int r = 0; r < rows; r++) {
            if (r > 0) text.append('/');
            for (int c = 0; c < columns; c++) text.append(signs.charAt(any(signs.length())));
        }
        if (once(3)) {
            int at = any(text.length());
            switch (any(4)) {
                case 0: text.deleteCharAt(at); break;
                case 1: text.insert(at, "/1x5W 0".charAt(any(7))); break;
                case 2: text.setCharAt(at, "/1x5C~0".charAt(any(7))); break;
                default: text.setLength(at); break;
            }
        }
        return text.toString();
    }

    private int set(Model m) {
        int n = m.w.perfs.size();
        if (once(25)) return new int[] {0, -1, 1 << n, Integer.MIN_VALUE, 63, 64, 1 << 31 | 1}[any(7)];
        return n == 0 ? 1 : once(2) ? 1 << any(n) : from(1, (1 << n) - 1);
    }

    private int order(Model m) {
        if (m.w.tickets.isEmpty() || once(10)) return near(0, Math.max(0, m.w.made));
        return m.w.tickets.get(any(m.w.tickets.size())).order();
    }

    private int ticketed(Model m, int order) {
        List<Integer> list = new ArrayList<>();
        for (Model.Ticket t : m.w.tickets) if (t.order() == order) list.add(t.performance());
        if (list.isEmpty() || once(8)) return near(0, 5);
        return list.get(any(list.size()));
    }

    private int held(Model m) {
        if (m.w.holds.isEmpty() || once(10)) return near(0, Math.max(0, m.w.made));
        return m.w.holds.get(any(m.w.holds.size())).number();
    }

    private int seats() {
        return once(20) ? near(1, 8) : room == 0 ? from(1, 2) : from(1, 5);
    }

    private int minutes() {
        return once(10) ? near(1, 10000) : room == 2 ? from(1, 3000) : from(1, 20);
    }

    private int start(Model m) {
        if (once(15)) return near(m.w.time + 1, 100000);
        return m.w.time + (room == 1 ? from(1, 200) : from(50, 2000));
    }

    private Object[] command(Model m) {
        int order = order(m);
        switch (any(room == 0 ? 40 : 26)) {
            case 0: case 1: return of("addPerformance", start(m), once(8) ? near(10, 300) : from(10, 300));
            case 2: return of("setPrice", near(1, 4), near(0, once(2) ? 100000 : 5000));
            case 3: return of("setFocus", near(0, m.w.hall.size() - 1));
            case 4: return of("setRule", once(2));
            case 5: case 6: return of("block", near(0, Math.max(0, m.w.perfs.size() - 1)), near(0, m.w.hall.size() - 1),
                    near(0, m.columns() - 1), !once(3));
            case 7: case 8: return of("advance", minutes());
            case 9: case 10: return of("release", held(m));
            case 11: case 12: case 13: return of("exchange", order, ticketed(m, order), near(0, 5));
            case 14: case 15: return of("refund", order, ticketed(m, order));
            case 16: case 17: case 18: case 19: case 26: case 27: case 28: case 29: return of("confirm", held(m));
            default: return of("hold", near(0, 9), set(m), seats(), once(3) ? near(0, 4) : 0, once(4) ? near(0, 1) : 0,
                    room == 1 && once(2) ? from(1, 5) : near(1, 60));
        }
    }

    private Object[] question(Model m) {
        int order = order(m);
        int p = near(0, Math.max(0, m.w.perfs.size() - 1));
        int row = near(0, m.w.hall.size() - 1);
        int column = near(0, m.columns() - 1);
        switch (any(16)) {
            case 0: return of("place", row, column, near(0, 2));
            case 1: return of("state", p, row, column);
            case 2: return of("holder", p, row, column);
            case 3: return of("blockCount", set(m), seats(), near(0, 4), near(0, 1));
            case 4: case 5: return of("best", set(m), seats(), once(2) ? 0 : near(0, 4), near(0, 1), near(0, 4));
            case 6: return of("heldBy", held(m), near(0, 5));
            case 7: return of("ticket", order, ticketed(m, order), near(0, 4));
            case 8: case 9: return of("performance", p, near(0, 7));
            case 10: return of("account", near(0, 9));
            case 11: return of("soldShare", p);
            case 12: return of("meanAmount");
            case 13: return of("count", near(0, 7));
            case 14: return of("ledger", near(-1, Math.min(39, m.w.payments.size())), near(0, 2));
            default: return once(3) ? of("errorPosition") : of("reason");
        }
    }

    private Object[] next(Model m) {
        if (once(30)) return of("undo");
        if (once(150)) return of("snapshot");
        if (once(room == 0 ? 400 : 150)) return of("restore");
        if (once(80)) return of("isReplayed");
        return once(room == 0 ? 6 : 3) ? question(m) : command(m);
    }

    private boolean step(int run, TheatreBoxOffice box, Model m, Object[] call, List<String> told) {
        String name = (String) call[0];
        Object[] args = java.util.Arrays.copyOfRange(call, 1, call.length);
        String want = ask(MODEL.get(name), m, args);
        String got = ask(REAL.get(name), box, args);
        calls++;
        if (want.equals("IllegalStateException") && calls < CALLS) {
            want += " " + m.reason();
            got += " " + box.reason();
            calls++;
        }
        String line = name + java.util.Arrays.toString(args);
        told.add(line + " -> " + got);
        seen.merge(name + (want.matches("-?[0-9.E]+|true|false") ? "" : " " + want), 1, Integer::sum);
        if (got.equals(want)) return true;
        System.out.println("run " + run + ": " + String.join("; ", told) + ": due is " + want);
        return false;
    }

    /** Answers whether all calls of a run, as many as the document allows, were answered as is due. */
    private boolean run(int run) {
        seed = run * 7919L + 17;
        room = run % 3;
        calls = 0;
        TheatreBoxOffice box = new TheatreBoxOffice();
        Model m = new Model();
        List<String> told = new ArrayList<>();
        List<Object[]> next = new ArrayList<>();
        boolean first = true;
        while (calls < CALLS) {
            if (first && !once(4) || once(room == 0 ? 2000 : 250)) addLoad(next);
            first = false;
            if (next.isEmpty()) next.add(next(m));
            if (!step(run, box, m, next.remove(0), told)) return false;
        }
        return true;
    }

    private void addLoad(List<Object[]> calls) {
        String text = map() + (once(300) ? "2".repeat(103) : "");
        for (int i = 0; i < text.length(); i++) {
            calls.add(of("append", text.charAt(i)));
        }
        if (once(20)) calls.add(of("append", (char) near(32, 126)));
        calls.add(of("load"));
    }

    /**
     * Long after the 512th call answers are free, and are not compared. But by LANGUAGE.md, rule 7, no call may
     * ever throw by itself, in any state: all that is thrown must be an exception that the signature names.
     */
    private boolean longRun(int run) {
        seed = run * 104729L + 3;
        room = run % 3;
        TheatreBoxOffice box = new TheatreBoxOffice();
        Model m = new Model();
        for (int i = 0; i < 10 * CALLS; i++) {
            Object[] call = next(m);
            Object[] args = java.util.Arrays.copyOfRange(call, 1, call.length);
            Method method = REAL.get((String) call[0]);
            ask(MODEL.get((String) call[0]), m, args);
            String got = ask(method, box, args);
            boolean named = !got.endsWith("Exception") && !got.endsWith("Error");
            for (Class<?> type : method.getExceptionTypes()) named |= got.equals(type.getSimpleName());
            if (!named) {
                System.out.println("long run " + run + ": " + call[0] + java.util.Arrays.toString(args) + " -> " + got);
                return false;
            }
        }
        return true;
    }

    public static void main(String[] args) {
        RandomRunsTest test = new RandomRunsTest();
        int wrong = 0;
        int runs = args.length > 0 ? Integer.parseInt(args[0]) : RUNS;
        for (int run = 0; run < runs && wrong < 3; run++) {
            if (!test.run(run)) wrong++;
        }
        for (int run = 0; run < 30; run++) {
            if (!test.longRun(run)) wrong++;
        }
        if (args.length > 0) new java.util.TreeMap<>(test.seen).forEach((k, v) -> System.out.println(k + ": " + v));
        System.out.println("RandomRunsTest: " + runs + " runs, " + wrong + " wrong");
        if (wrong > 0) System.exit(1);
    }
}
