import java.util.ArrayDeque;
import java.util.ArrayList;
import java.util.Comparator;
import java.util.Deque;
import java.util.List;
import java.util.NoSuchElementException;
import java.util.TreeMap;
import java.util.TreeSet;

/**
 * The document once more, written in another way, to compare the program with: no seat has a state
 * of its own here, all is asked of the holds and tickets, and undo and snapshot keep whole copies.
 */
final class Model {
    record Perf(int start, int factor) {
    }

    record Block(int row, int first, int seats, int distance, int orphans) {
        boolean covers(int r, int c) {
            return r == row && c >= first && c < first + seats;
        }
    }

    record Hold(int number, int customer, int set, Block block, int expiry) {
    }

    record Ticket(int order, int customer, int performance, Block block, int amount) {
    }

    record Payment(int kind, int customer, int amount) {
    }

    static final class World {
        List<String> hall = List.of("222222", "222222", "222222");
        int time = 0;
        int focus = 1;
        boolean rule = true;
        int made = 0;
        int commands = 0;
        TreeMap<Integer, Integer> prices = new TreeMap<>();
        List<Perf> perfs = new ArrayList<>();
        List<Hold> holds = new ArrayList<>();
        List<Ticket> tickets = new ArrayList<>();
        List<Payment> payments = new ArrayList<>();
        TreeMap<Integer, Integer> kept = new TreeMap<>();
        TreeSet<String> blocked = new TreeSet<>();

        World() {
            for (int category = 1; category <= 4; category++) {
                prices.put(category, 5000 - 1000 * category);
            }
        }

        World copy() {
            World w = new World();
            w.hall = hall;
            w.time = time;
            w.focus = focus;
            w.rule = rule;
            w.made = made;
            w.commands = commands;
            w.prices = new TreeMap<>(prices);
            w.perfs = new ArrayList<>(perfs);
            w.holds = new ArrayList<>(holds);
            w.tickets = new ArrayList<>(tickets);
            w.payments = new ArrayList<>(payments);
            w.kept = new TreeMap<>(kept);
            w.blocked = new TreeSet<>(blocked);
            return w;
        }
    }

    World w = new World();
    StringBuilder text = new StringBuilder();
    int error = -1;
    int why = 0;
    World taken = null;
    Deque<World> past = new ArrayDeque<>();

    private IllegalStateException refusal(int reason) {
        why = reason;
        return new IllegalStateException();
    }

    private void command() {
        past.addLast(w.copy());
        if (past.size() > 8) {
            past.removeFirst();
        }
        w.commands++;
    }

    // hall

    static boolean canGoOn(String prefix) {
        String[] rows = prefix.split("/", -1);
        for (int i = 0; i < rows.length; i++) {
            boolean last = i == rows.length - 1;
            if (!rows[i].matches("[.1234wc]*")) return false;
            if (!last && rows[i].isEmpty()) return false;
            if (i > 0 && !last && rows[i].length() != rows[0].length()) return false;
            if (i > 0 && rows[i].length() > rows[0].length()) return false;
        }
        return true;
    }

    static int errorIn(String map) {
        for (int i = 0; i < map.length(); i++) {
            if (!canGoOn(map.substring(0, i + 1))) return i;
        }
        String[] rows = map.split("/", -1);
        boolean whole = rows[rows.length - 1].length() == rows[0].length() && !rows[0].isEmpty();
        return whole ? -1 : map.length();
    }

    public int append(char c) {
        if (c < 32 || c > 126) throw new IllegalArgumentException();
        if (text.length() == 103) throw refusal(2);
        return text.append(c).length();
    }

    public int load() {
        String map = text.toString();
        text = new StringBuilder();
        int at = errorIn(map);
        if (at >= 0) {
            error = at;
            throw new IllegalArgumentException();
        }
        List<String> rows = List.of(map.split("/"));
        if (rows.size() > 8 || rows.get(0).length() > 12) throw new UnsupportedOperationException();
        w = new World();
        w.hall = rows;
        w.focus = rows.size() / 2;
        past.clear();
        return seatsOfHall();
    }

    public int errorPosition() {
        if (error < 0) throw new NoSuchElementException();
        return error;
    }

    int columns() {
        return w.hall.get(0).length();
    }

    boolean isPlace(int r, int c) {
        return r >= 0 && r < w.hall.size() && c >= 0 && c < columns();
    }

    char sign(int r, int c) {
        return isPlace(r, c) ? w.hall.get(r).charAt(c) : '.';
    }

    int category(int r, int c) {
        char s = sign(r, c);
        return s == '.' ? 0 : s == 'w' || s == 'c' ? 1 : Integer.parseInt("" + s);
    }

    int seatsOfHall() {
        int n = 0;
        for (String row : w.hall) n += row.replace(".", "").length();
        return n;
    }

    int distance(int r, int c) {
        return Math.abs(2 * c - columns() + 1) + 4 * Math.abs(r - w.focus);
    }

    public int place(int r, int c, int what) {
        if (!isPlace(r, c)) throw new IndexOutOfBoundsException();
        if (what == 0) return category(r, c);
        if (what == 1) return "wc".indexOf(sign(r, c)) + 1;
        if (what == 2) return distance(r, c);
        throw new IllegalArgumentException();
    }

    public int addPerformance(int start, int factor) {
        if (start <= w.time || start > 100000) throw new IllegalArgumentException();
        if (factor < 10 || factor > 300) throw new IllegalArgumentException();
        if (w.perfs.size() == 6) throw refusal(2);
        command();
        w.perfs.add(new Perf(start, factor));
        return w.perfs.size() - 1;
    }

    public int setPrice(int category, int price) {
        if (!w.prices.containsKey(category)) throw new IndexOutOfBoundsException();
        if (price < 0 || price > 100000) throw new IllegalArgumentException();
        command();
        return w.prices.put(category, price);
    }

    public int setFocus(int row) {
        if (row < 0 || row >= w.hall.size()) throw new IndexOutOfBoundsException();
        command();
        int before = w.focus;
        w.focus = row;
        return before;
    }

    public boolean setRule(boolean on) {
        command();
        boolean before = w.rule;
        w.rule = on;
        return before;
    }

    void need(int p) {
        if (p < 0 || p >= w.perfs.size()) throw new IndexOutOfBoundsException();
    }

    void need(int p, int r, int c) {
        need(p);
        if (!isPlace(r, c)) throw new IndexOutOfBoundsException();
    }

    int stateOf(int p, int r, int c) {
        if (sign(r, c) == '.') return 4;
        if (w.blocked.contains(p + "," + r + "," + c)) return 3;
        for (Ticket t : w.tickets) if (t.performance == p && t.block.covers(r, c)) return 2;
        for (Hold h : w.holds) if ((h.set >> p & 1) == 1 && h.block.covers(r, c)) return 1;
        return 0;
    }

    public boolean block(int p, int r, int c, boolean on) {
        need(p, r, c);
        int s = stateOf(p, r, c);
        if (s == 4) throw new IllegalArgumentException();
        if (s == 1 || s == 2) throw refusal(4);
        command();
        if (on) w.blocked.add(p + "," + r + "," + c);
        else w.blocked.remove(p + "," + r + "," + c);
        return s == 3;
    }

    public int state(int p, int r, int c) {
        need(p, r, c);
        return stateOf(p, r, c);
    }

    public int holder(int p, int r, int c) {
        need(p, r, c);
        for (Ticket t : w.tickets) if (t.performance == p && t.block.covers(r, c)) return t.order;
        for (Hold h : w.holds) if ((h.set >> p & 1) == 1 && h.block.covers(r, c)) return h.number;
        throw new NoSuchElementException();
    }

    public int advance(int minutes) {
        if (minutes < 1 || minutes > 10000) throw new IllegalArgumentException();
        if (w.time + minutes > 100000) throw refusal(2);
        command();
        w.time += minutes;
        int before = w.holds.size();
        w.holds.removeIf(h -> w.time >= h.expiry);
        return before - w.holds.size();
    }

    // blocks

    List<Integer> members(int set) {
        if (set == 0) throw new IndexOutOfBoundsException();
        List<Integer> list = new ArrayList<>();
        for (int p = 0; p < 32; p++) {
            if ((set & 1 << p) != 0) {
                if (p >= w.perfs.size()) throw new IndexOutOfBoundsException();
                list.add(p);
            }
        }
        return list;
    }

    void request(int seats, int category, int kind) {
        if (seats < 1 || seats > 8) throw new IllegalArgumentException();
        if (category < 0 || category > 4) throw new IllegalArgumentException();
        if (kind != 0 && kind != 1) throw new IllegalArgumentException();
    }

    boolean fits(List<Integer> ps, int r, int first, int seats, int category, int kind) {
        int accessible = 0;
        for (int c = first; c < first + seats; c++) {
            if (category != 0 && category(r, c) != category) return false;
            if (sign(r, c) == 'w') accessible++;
            for (int p : ps) {
                if (stateOf(p, r, c) != 0) return false;
                if (kind == 0 && sign(r, c) == 'c' && w.perfs.get(p).start > w.time + 60) return false;
            }
        }
        return accessible == kind;
    }

    boolean orphan(List<Integer> ps, int r, int near, int far) {
        for (int p : ps) {
            if (stateOf(p, r, near) == 0 && stateOf(p, r, far) != 0) return true;
        }
        return false;
    }

    List<Block> blocks(int set, int seats, int category, int kind) {
        List<Integer> ps = members(set);
        List<Block> list = new ArrayList<>();
        for (int r = 0; r < w.hall.size(); r++) {
            for (int first = 0; first <= columns() - seats; first++) {
                if (!fits(ps, r, first, seats, category, kind)) continue;
                int sum = 0;
                for (int i = 0; i < seats; i++) sum += distance(r, first + i);
                int orphans = 0;
                if (orphan(ps, r, first - 1, first - 2)) orphans++;
                if (orphan(ps, r, first + seats, first + seats + 1)) orphans++;
                list.add(new Block(r, first, seats, sum, orphans));
            }
        }
        Comparator<Block> order = Comparator.comparingInt(Block::distance)
                .thenComparingInt(Block::row).thenComparingInt(Block::first);
        if (w.rule) order = Comparator.comparingInt(Block::orphans).thenComparing(order);
        list.sort(order);
        return list;
    }

    int price(int p, int r, int c) {
        return w.prices.getOrDefault(category(r, c), 0) * w.perfs.get(p).factor / 100;
    }

    int price(int p, Block b) {
        int sum = 0;
        for (int c = b.first; c < b.first + b.seats; c++) sum += price(p, b.row, c);
        return sum;
    }

    public int blockCount(int set, int seats, int category, int kind) {
        members(set);
        request(seats, category, kind);
        return blocks(set, seats, category, kind).size();
    }

    public int best(int set, int seats, int category, int kind, int what) {
        List<Integer> ps = members(set);
        request(seats, category, kind);
        if (what < 0 || what > 4) throw new IllegalArgumentException();
        List<Block> list = blocks(set, seats, category, kind);
        if (list.isEmpty()) throw new NoSuchElementException();
        Block b = list.get(0);
        int sum = 0;
        for (int p : ps) sum += price(p, b);
        return new int[] {b.row, b.first, b.distance, b.orphans, sum}[what];
    }

    boolean started(int p) {
        return w.perfs.get(p).start <= w.time;
    }

    public int hold(int customer, int set, int seats, int category, int kind, int minutes) {
        if (customer < 0 || customer > 9) throw new IndexOutOfBoundsException();
        List<Integer> ps = members(set);
        request(seats, category, kind);
        if (minutes < 1 || minutes > 60) throw new IllegalArgumentException();
        for (int p : ps) if (started(p)) throw refusal(3);
        List<Block> list = blocks(set, seats, category, kind);
        if (list.isEmpty()) throw refusal(1);
        if (w.holds.size() == 12) throw refusal(2);
        command();
        w.holds.add(new Hold(w.made, customer, set, list.get(0), w.time + minutes));
        w.made++;
        return w.made - 1;
    }

    Hold find(int number) {
        for (Hold h : w.holds) if (h.number == number) return h;
        throw new NoSuchElementException();
    }

    public int release(int number) {
        Hold h = find(number);
        command();
        w.holds.remove(h);
        return h.expiry - w.time;
    }

    public int confirm(int number) {
        Hold h = find(number);
        List<Integer> ps = members(h.set);
        for (int p : ps) if (started(p)) throw refusal(3);
        if (count(3) == 20) throw refusal(2);
        command();
        w.holds.remove(h);
        int total = 0;
        for (int p : ps) {
            int amount = price(p, h.block);
            if (ps.size() >= 3) amount = amount - amount / 10;
            w.tickets.add(new Ticket(number, h.customer, p, h.block, amount));
            w.payments.add(new Payment(1, h.customer, amount));
            total += amount;
        }
        return total;
    }

    public int heldBy(int number, int what) {
        Hold h = find(number);
        if (what < 0 || what > 5) throw new IllegalArgumentException();
        return new int[] {h.customer, h.set, h.block.row, h.block.first, h.block.seats, h.expiry}[what];
    }

    Ticket ticketOf(int order, int p) {
        for (Ticket t : w.tickets) if (t.order == order && t.performance == p) return t;
        return null;
    }

    public int ticket(int order, int p, int what) {
        Ticket t = ticketOf(order, p);
        if (t == null) throw new NoSuchElementException();
        if (what < 0 || what > 4) throw new IllegalArgumentException();
        return new int[] {t.customer, t.block.row, t.block.first, t.block.seats, t.amount}[what];
    }

    public int exchange(int order, int from, int to) {
        need(to);
        Ticket t = ticketOf(order, from);
        if (t == null) throw refusal(5);
        if (started(from) || started(to)) throw refusal(3);
        if (to != from && ticketOf(order, to) != null) throw refusal(6);
        int kind = 0;
        for (int i = 0; i < t.block.seats; i++) {
            if (sign(t.block.row, t.block.first + i) == 'w') kind = 1;
        }
        List<Block> list = blocks(1 << to, t.block.seats, 0, kind);
        if (list.isEmpty()) throw refusal(1);
        command();
        int amount = price(to, list.get(0));
        w.tickets.remove(t);
        w.tickets.add(new Ticket(order, t.customer, to, list.get(0), amount));
        w.payments.add(new Payment(2, t.customer, amount - t.amount));
        return amount - t.amount;
    }

    public int refund(int order, int p) {
        Ticket t = ticketOf(order, p);
        if (t == null) throw refusal(5);
        if (started(p)) throw refusal(3);
        command();
        int back = w.perfs.get(p).start >= w.time + 120 ? t.amount : t.amount / 2;
        w.tickets.remove(t);
        w.kept.merge(p, t.amount - back, Integer::sum);
        w.payments.add(new Payment(3, t.customer, -back));
        return back;
    }

    // accounts

    int number(int p, int state) {
        int n = 0;
        for (int r = 0; r < w.hall.size(); r++) {
            for (int c = 0; c < columns(); c++) if (stateOf(p, r, c) == state) n++;
        }
        return n;
    }

    public int performance(int p, int what) {
        need(p);
        switch (what) {
            case 0: return w.perfs.get(p).start;
            case 1: return w.perfs.get(p).factor;
            case 2:
                int sum = w.kept.getOrDefault(p, 0);
                for (Ticket t : w.tickets) if (t.performance == p) sum += t.amount;
                return sum;
            case 3: case 4: case 5: case 6: return number(p, what - 3);
            case 7:
                int all = 0;
                for (int r = 0; r < w.hall.size(); r++) {
                    for (int c = 0; c < columns(); c++) if (stateOf(p, r, c) == 0) all += price(p, r, c);
                }
                return all;
            default: throw new IllegalArgumentException();
        }
    }

    public int account(int customer) {
        if (customer < 0 || customer > 9) throw new IndexOutOfBoundsException();
        int sum = 0;
        for (Payment p : w.payments) if (p.customer == customer) sum += p.amount;
        return sum;
    }

    public double soldShare(int p) {
        need(p);
        if (seatsOfHall() == 0) throw new ArithmeticException();
        return (double) number(p, 2) / (double) seatsOfHall();
    }

    public float meanAmount() {
        if (w.tickets.isEmpty()) throw new ArithmeticException();
        int amounts = 0;
        int seats = 0;
        for (Ticket t : w.tickets) {
            amounts += t.amount;
            seats += t.block.seats;
        }
        return (float) amounts / (float) seats;
    }

    public int count(int what) {
        switch (what) {
            case 0: return w.time;
            case 1: return w.perfs.size();
            case 2: return w.holds.size();
            case 3:
                TreeSet<Integer> orders = new TreeSet<>();
                for (Ticket t : w.tickets) orders.add(t.order);
                return orders.size();
            case 4: return w.tickets.size();
            case 5: return w.made;
            case 6: return seatsOfHall();
            case 7: return w.commands;
            default: throw new IllegalArgumentException();
        }
    }

    public int ledger(int index, int column) {
        int n = Math.min(40, w.payments.size());
        if (index == -1) return n;
        if (index < 0 || index >= n || column < 0 || column > 2) throw new IndexOutOfBoundsException();
        Payment p = w.payments.get(w.payments.size() - n + index);
        return column == 0 ? p.kind : column == 1 ? p.customer : p.amount;
    }

    public int reason() {
        return why;
    }

    public int undo() {
        if (past.isEmpty()) throw refusal(7);
        w = past.removeLast();
        return past.size();
    }

    public boolean isReplayed() {
        return true;
    }

    public int snapshot() {
        taken = w.copy();
        return w.time;
    }

    public int restore() {
        if (taken == null) throw refusal(7);
        w = taken.copy();
        past.clear();
        return w.time;
    }
}
