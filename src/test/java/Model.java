import java.util.ArrayList;
import java.util.List;
import java.util.Map;
import java.util.TreeMap;

/**
 * The document once more, written for plainness alone, without a thought of speed or room: what is
 * drawn are real copies, undo is a copy of all, a plan tries every blend. ModelTest holds
 * BlendCellar against it.
 */
final class Model {
    static final class Refused extends RuntimeException {
        private static final long serialVersionUID = 1L;
        final int reason;

        Refused(int reason) {
            super("reason " + reason, null, false, false);
            this.reason = reason;
        }
    }

    interface Act {
        long run();
    }

    abstract class Barrel {
        int kind;
        int size;
        int cents;
        int place;
        TreeMap<Integer, Long> wine = new TreeMap<>();
        List<Integer> members = new ArrayList<>();

        abstract long most();

        abstract long spare();

        abstract long rate();

        abstract long dear(long x);

        TreeMap<Integer, Long> all() {
            return wine;
        }

        long has() {
            return sum(all());
        }
    }

    class Oak extends Barrel {
        long most() {
            body(1);
            return size;
        }

        long spare() {
            body(5);
            return Math.max(0, has() - size / 1000);
        }

        long rate() {
            body(10);
            return 20;
        }

        long dear(long x) {
            body(13);
            return cents * x;
        }
    }

    class NewOak extends Oak {
        long spare() {
            body(6);
            return Math.max(0, super.spare() - size / 2000);
        }

        long rate() {
            body(11);
            return super.rate() + 15;
        }

        long dear(long x) {
            body(14);
            long y = cents * x;
            return y + y / 10;
        }
    }

    class Steel extends Barrel {
        long most() {
            body(2);
            return size - size / 50;
        }

        long spare() {
            body(7);
            return has();
        }

        long rate() {
            body(9);
            return 0;
        }

        long dear(long x) {
            body(13);
            return cents * x;
        }
    }

    class Glass extends Steel {
        long most() {
            body(3);
            return Math.max(0, super.most() - 10);
        }

        long rate() {
            body(12);
            return 1;
        }
    }

    class Cask extends Barrel {
        long most() {
            body(4);
            long s = 0;
            for (int m : members) {
                s += now.barrels.get(m).most();
            }
            return s;
        }

        long spare() {
            body(8);
            long s = 0;
            for (int m : members) {
                s += now.barrels.get(m).spare();
            }
            return s;
        }

        long rate() {
            body(9);
            return 0;
        }

        long dear(long x) {
            body(15);
            return 2 * (cents * x);
        }

        TreeMap<Integer, Long> all() {
            TreeMap<Integer, Long> sum = new TreeMap<>();
            for (int m : members) {
                pour(now.barrels.get(m).wine, sum);
            }
            return sum;
        }
    }

    static final class Row {
        int kind;
        int[] places;
    }

    final class State {
        List<Barrel> barrels = new ArrayList<>();
        TreeMap<Integer, Row> rows = new TreeMap<>();
        int months;
        List<TreeMap<Integer, Long>> accounts = new ArrayList<>();
        List<long[]> journal = new ArrayList<>();
        List<long[]> bottlings = new ArrayList<>();

        State copy() {
            State s = new State();
            for (Barrel b : barrels) {
                Barrel c = make(b.kind, b.size, b.cents);
                c.place = b.place;
                c.wine = new TreeMap<>(b.wine);
                c.members = new ArrayList<>(b.members);
                s.barrels.add(c);
            }
            for (Map.Entry<Integer, Row> e : rows.entrySet()) {
                Row r = new Row();
                r.kind = e.getValue().kind;
                r.places = e.getValue().places.clone();
                s.rows.put(e.getKey(), r);
            }
            s.months = months;
            for (TreeMap<Integer, Long> a : accounts) {
                s.accounts.add(new TreeMap<>(a));
            }
            s.journal.addAll(journal);
            s.bottlings.addAll(bottlings);
            return s;
        }
    }

    static final class Rule {
        int op;
        int dim;
        int value;
        int h;
        Rule first;
        Rule second;

        boolean holds(TreeMap<Integer, Long> wine) {
            if (op == 6) {
                return first.holds(wine) || second.holds(wine);
            }
            long t = sum(wine);
            long s = 0;
            for (Map.Entry<Integer, Long> e : wine.entrySet()) {
                int p = e.getKey();
                int has = dim == 1 ? p >> 8 : dim == 2 ? (p >> 4) & 15 : p & 15;
                s += has == value ? e.getValue() : 0;
            }
            if (op <= 2 && t == 0) {
                throw new Refused(5);
            }
            return op == 1 ? s * 100 / t >= h
                : op == 2 ? (s * 100 + t - 1) / t <= h
                : op == 3 ? s == t
                : op == 4 ? s > 0
                : s == 0;
        }
    }

    static final class Label {
        List<Rule> rules = new ArrayList<>();
        int made;
    }

    State now = new State();
    State was;
    List<Label> labels = new ArrayList<>();
    List<Integer> picks = new ArrayList<>();
    List<Long> pickedMl = new ArrayList<>();
    long[] planned = new long[0];
    long numbers;
    int tries;
    int why;
    int which = -1;
    List<Integer> trace = new ArrayList<>();
    boolean quiet;

    Model() {
        for (int i = 0; i < 5; i++) {
            now.accounts.add(new TreeMap<>());
        }
    }

    void body(int n) {
        if (!quiet) {
            trace.add(n);
        }
    }

    static long sum(TreeMap<Integer, Long> wine) {
        long s = 0;
        for (long v : wine.values()) {
            s += v;
        }
        return s;
    }

    static void pour(TreeMap<Integer, Long> from, TreeMap<Integer, Long> onto) {
        for (Map.Entry<Integer, Long> e : from.entrySet()) {
            onto.merge(e.getKey(), e.getValue(), Long::sum);
        }
    }

    Barrel make(int kind, int size, int cents) {
        Barrel b = kind == 1 ? new Oak() : kind == 2 ? new NewOak() : kind == 3 ? new Steel()
            : kind == 4 ? new Glass() : new Cask();
        b.kind = kind;
        b.size = size;
        b.cents = cents;
        return b;
    }

    /** Draws x from a copy of a vessel's wine; answers what is drawn, and lays the rest in left. */
    static TreeMap<Integer, Long> draw(TreeMap<Integer, Long> wine, long x, TreeMap<Integer, Long> left) {
        long t = sum(wine);
        TreeMap<Integer, Long> drawn = new TreeMap<>();
        left.clear();
        left.putAll(wine);
        if (x == 0) {
            return drawn;
        }
        for (Map.Entry<Integer, Long> e : wine.entrySet()) {
            drawn.put(e.getKey(), x * e.getValue() / t);
        }
        long wanting = x - sum(drawn);
        for (int p : wine.keySet()) {
            if (wanting > 0 && x * wine.get(p) % t != 0) {
                drawn.merge(p, 1L, Long::sum);
                wanting--;
            }
        }
        for (int p : wine.keySet()) {
            left.merge(p, -drawn.get(p), Long::sum);
        }
        drawn.values().removeIf(v -> v == 0);
        left.values().removeIf(v -> v == 0);
        return drawn;
    }

    /** Draws in thought: what is left of each vessel goes into lefts, by its number. */
    TreeMap<Integer, Long> drawFrom(int b, long x, Map<Integer, TreeMap<Integer, Long>> lefts) {
        Barrel barrel = now.barrels.get(b);
        TreeMap<Integer, Long> drawn = new TreeMap<>();
        if (barrel.kind != 5) {
            TreeMap<Integer, Long> left = new TreeMap<>();
            drawn = draw(barrel.wine, x, left);
            lefts.put(b, left);
            return drawn;
        }
        long wanting = x;
        for (int m : barrel.members) {
            if (wanting == 0) {
                break;
            }
            long gives = Math.min(wanting, now.barrels.get(m).spare());
            TreeMap<Integer, Long> left = new TreeMap<>();
            pour(draw(now.barrels.get(m).wine, gives, left), drawn);
            lefts.put(m, left);
            wanting -= gives;
        }
        return drawn;
    }

    void apply(Map<Integer, TreeMap<Integer, Long>> lefts) {
        for (Map.Entry<Integer, TreeMap<Integer, Long>> e : lefts.entrySet()) {
            now.barrels.get(e.getKey()).wine = e.getValue();
        }
    }

    long act(boolean undoable, Act a) {
        tries++;
        trace.clear();
        State copy = undoable ? now.copy() : null;
        try {
            long answer = a.run();
            why = 0;
            if (undoable) {
                was = copy;
            }
            return answer;
        } catch (Refused r) {
            why = r.reason;
            return -why;
        }
    }

    static void check(boolean bad, int reason) {
        if (bad) {
            throw new Refused(reason);
        }
    }

    Barrel lookUp(int b) {
        check(b < 0 || b > 999, 3);
        check(b >= now.barrels.size(), 2);
        return now.barrels.get(b);
    }

    Barrel vessel(int b) {
        Barrel x = lookUp(b);
        check(x.kind == 5, 4);
        return x;
    }

    Barrel cask(int b) {
        Barrel x = lookUp(b);
        check(x.kind != 5, 4);
        return x;
    }

    Label lookUpLabel(int l) {
        check(l < 0 || l > 39, 3);
        check(l >= labels.size(), 2);
        return labels.get(l);
    }

    Row readPlace(int r, int p) {
        check(r < 0 || r > 19, 3);
        Row row = now.rows.get(r);
        check(row == null, 6);
        check(p < 0 || p >= row.places.length, 3);
        return row;
    }

    static boolean inCask(Barrel b) {
        return b.place >= 10000;
    }

    static void ml(long ml) {
        check(ml < 1 || ml > 1000000000, 1);
    }

    long row(int r, int kind, int n) {
        return act(true, () -> {
            check(kind < 0 || kind > 6 || n > 60, 1);
            check(r < 0 || r > 19, 3);
            check(now.rows.containsKey(r), 8);
            check(n < 0, 7);
            Row row = new Row();
            row.kind = kind;
            row.places = new int[n];
            java.util.Arrays.fill(row.places, -1);
            now.rows.put(r, row);
            return n;
        });
    }

    long barrel(int kind, int size, int cents) {
        return act(true, () -> {
            check(kind < 1 || kind > 5, 1);
            check(kind != 5 && (size < 1 || size > 1000000000), 1);
            check(cents < 0 || cents > 1000000, 1);
            check(now.barrels.size() == 1000, 12);
            now.barrels.add(make(kind, kind == 5 ? 0 : size, cents));
            return now.barrels.size() - 1;
        });
    }

    long join(int c, int b) {
        return act(true, () -> {
            Barrel k = cask(c);
            Barrel v = vessel(b);
            check(v.place != 0, 9);
            check(k.members.size() == 4, 12);
            k.members.add(b);
            v.place = 10000 + c;
            return k.members.size();
        });
    }

    long leave(int c) {
        return act(true, () -> {
            Barrel k = cask(c);
            check(k.members.isEmpty(), 3);
            int b = k.members.remove(k.members.size() - 1);
            now.barrels.get(b).place = 0;
            return b;
        });
    }

    static boolean takes(int row, int kind) {
        String[] kinds = {"12345", "12", "2", "34", "4", "5", "1234"};
        return kinds[row].indexOf('0' + kind) >= 0;
    }

    long lay(int b, int r, int p) {
        return act(true, () -> {
            Barrel x = lookUp(b);
            check(x.place != 0, 9);
            Row row = readPlace(r, p);
            check(row.places[p] >= 0, 8);
            check(!takes(row.kind, x.kind), 4);
            row.places[p] = b;
            x.place = 1 + 100 * r + p;
            return b;
        });
    }

    long lift(int r, int p) {
        return act(true, () -> {
            Row row = readPlace(r, p);
            int b = row.places[p];
            check(b < 0, 2);
            row.places[p] = -1;
            now.barrels.get(b).place = 0;
            return b;
        });
    }

    long worth(int b, int cents) {
        return act(true, () -> {
            check(cents < 0 || cents > 1000000, 1);
            Barrel x = lookUp(b);
            int old = x.cents;
            x.cents = cents;
            return old;
        });
    }

    void note(long what, long from, long to, long ml) {
        now.journal.add(new long[] {what, from, to, ml});
    }

    long fill(int b, int part, long ml) {
        return act(true, () -> {
            check(part < 0 || part > 4095, 1);
            ml(ml);
            Barrel v = vessel(b);
            check(inCask(v), 9);
            check(v.has() + ml > v.most(), 11);
            check(!v.wine.containsKey(part) && v.wine.size() == 60, 12);
            v.wine.merge(part, ml, Long::sum);
            now.accounts.get(0).merge(part, ml, Long::sum);
            note(1, -1, b, ml);
            return v.has();
        });
    }

    void pourInto(Barrel v, TreeMap<Integer, Long> drawn, Map<Integer, TreeMap<Integer, Long>> lefts) {
        TreeMap<Integer, Long> together = new TreeMap<>(v.wine);
        pour(drawn, together);
        check(together.size() > 60, 12);
        apply(lefts);
        v.wine = together;
    }

    long rack(int from, int to, long ml) {
        return act(true, () -> {
            ml(ml);
            Barrel f = lookUp(from);
            Barrel t = vessel(to);
            check(from == to, 13);
            check(inCask(f) || inCask(t), 9);
            check(ml > f.spare(), 10);
            check(t.has() + ml > t.most(), 11);
            Map<Integer, TreeMap<Integer, Long>> lefts = new TreeMap<>();
            pourInto(t, drawFrom(from, ml, lefts), lefts);
            note(2, from, to, ml);
            return t.has();
        });
    }

    long topUp(int to, int from) {
        return act(true, () -> {
            Barrel t = vessel(to);
            Barrel f = lookUp(from);
            check(from == to, 13);
            check(inCask(f) || inCask(t), 9);
            long free = t.most() - t.has();
            long spare = f.spare();
            check(free <= 0, 11);
            check(spare == 0, 10);
            long x = Math.min(free, spare);
            Map<Integer, TreeMap<Integer, Long>> lefts = new TreeMap<>();
            pourInto(t, drawFrom(from, x, lefts), lefts);
            note(3, from, to, x);
            return x;
        });
    }

    long pick(int b, long ml) {
        return act(false, () -> {
            ml(ml);
            lookUp(b);
            check(picks.contains(b), 13);
            check(picks.size() == 8, 12);
            picks.add(b);
            pickedMl.add(ml);
            return picks.size();
        });
    }

    void dropPicks() {
        picks.clear();
        pickedMl.clear();
    }

    long forget() {
        return act(false, () -> {
            int n = picks.size();
            dropPicks();
            return n;
        });
    }

    boolean aPickInCask() {
        return picks.stream().anyMatch(b -> inCask(now.barrels.get(b)));
    }

    long blend(int to) {
        return act(true, () -> {
            check(picks.isEmpty(), 10);
            Barrel t = vessel(to);
            check(picks.contains(to), 13);
            check(inCask(t) || aPickInCask(), 9);
            long sum = 0;
            for (int i = 0; i < picks.size(); i++) {
                check(pickedMl.get(i) > now.barrels.get(picks.get(i)).spare(), 10);
                sum += pickedMl.get(i);
            }
            check(t.has() + sum > t.most(), 11);
            Map<Integer, TreeMap<Integer, Long>> lefts = new TreeMap<>();
            TreeMap<Integer, Long> drawn = new TreeMap<>();
            for (int i = 0; i < picks.size(); i++) {
                pour(drawFrom(picks.get(i), pickedMl.get(i), lefts), drawn);
            }
            pourInto(t, drawn, lefts);
            for (int i = 0; i < picks.size(); i++) {
                note(4, picks.get(i), to, pickedMl.get(i));
            }
            dropPicks();
            return sum;
        });
    }

    long breathe(int m) {
        return act(true, () -> {
            check(m < 1 || m > 12, 1);
            long[] rates = new long[now.barrels.size()];
            for (int b = 0; b < rates.length; b++) {
                rates[b] = now.barrels.get(b).rate();
            }
            long gone = 0;
            for (int i = 0; i < m; i++) {
                for (int b = 0; b < rates.length; b++) {
                    Barrel v = now.barrels.get(b);
                    if (v.kind != 5) {
                        long x = v.has() * rates[b] / 10000;
                        TreeMap<Integer, Long> left = new TreeMap<>();
                        pour(draw(v.wine, x, left), now.accounts.get(1));
                        v.wine = left;
                        gone += x;
                    }
                }
            }
            now.months += m;
            note(5, -1, -1, gone);
            return gone;
        });
    }

    long bottle(int b, int n, long all) {
        return act(true, () -> {
            check(n < 0 || n > 1000000, 1);
            ml(all);
            Barrel x = lookUp(b);
            check(inCask(x), 9);
            check(all > x.spare(), 10);
            check(n == 0, 5);
            check(all / n == 0, 10);
            long ml = all / n * n;
            Map<Integer, TreeMap<Integer, Long>> lefts = new TreeMap<>();
            pour(drawFrom(b, ml, lefts), now.accounts.get(4));
            apply(lefts);
            numbers++;
            now.bottlings.add(new long[] {numbers, b, n, all / n});
            note(6, b, -1, ml);
            return numbers;
        });
    }

    long drain(int b, long ml, int how) {
        return act(true, () -> {
            check(how != 1 && how != 2, 1);
            ml(ml);
            Barrel v = vessel(b);
            check(inCask(v), 9);
            check(v.wine.isEmpty(), 2);
            check(v.has() < ml, 10);
            Map<Integer, TreeMap<Integer, Long>> lefts = new TreeMap<>();
            pour(drawFrom(b, ml, lefts), now.accounts.get(how + 1));
            apply(lefts);
            note(how + 6, b, -1, ml);
            return v.has();
        });
    }

    long wash(int b) {
        return act(true, () -> {
            Barrel v = vessel(b);
            check(inCask(v), 9);
            long had = v.has();
            pour(v.wine, now.accounts.get(3));
            v.wine.clear();
            note(9, b, -1, had);
            return had;
        });
    }

    Map.Entry<Integer, Long> entryOf(int b, int i) {
        Barrel v = vessel(b);
        check(v.wine.isEmpty(), 2);
        check(i < 0 || i >= v.wine.size(), 3);
        return new ArrayList<>(v.wine.entrySet()).get(i);
    }

    long partAt(int b, int i) {
        return act(false, () -> entryOf(b, i).getKey());
    }

    long amountAt(int b, int i) {
        return act(false, () -> entryOf(b, i).getValue());
    }

    long room(int b) {
        return act(false, () -> {
            Barrel x = lookUp(b);
            return x.most() - x.has();
        });
    }

    long label() {
        return act(false, () -> {
            check(labels.size() == 40, 12);
            labels.add(new Label());
            return labels.size() - 1;
        });
    }

    long rule(int l, int op, int dim, int value, int h) {
        return act(false, () -> {
            check(op < 1 || op > 6, 1);
            check(op != 6 && (dim < 1 || dim > 3 || value < 0 || value > 15 || h < 0 || h > 100), 1);
            Label label = lookUpLabel(l);
            check(label.made == 20, 12);
            check(op == 6 && label.rules.size() < 2, 10);
            Rule rule = new Rule();
            rule.op = op;
            rule.dim = dim;
            rule.value = value;
            rule.h = h;
            if (op == 6) {
                rule.second = label.rules.remove(label.rules.size() - 1);
                rule.first = label.rules.remove(label.rules.size() - 1);
            }
            label.rules.add(rule);
            label.made++;
            return label.rules.size();
        });
    }

    long judge(int b, int l) {
        return act(false, () -> {
            which = -1;
            Barrel x = lookUp(b);
            Label label = lookUpLabel(l);
            TreeMap<Integer, Long> wine = x.all();
            for (int i = 0; i < label.rules.size(); i++) {
                which = i;
                if (!label.rules.get(i).holds(wine)) {
                    return 0;
                }
            }
            which = -1;
            return 1;
        });
    }

    long plan(int l, long ml, int step) {
        return act(false, () -> {
            ml(ml);
            check(step < 0, 1);
            check(step == 0, 5);
            check(ml % step != 0 || ml / step > 12, 1);
            Label label = lookUpLabel(l);
            check(picks.isEmpty(), 10);
            check(picks.size() > 6, 12);
            check(aPickInCask(), 9);
            int n = (int) (ml / step);
            long[] spare = new long[picks.size()];
            long[][] dear = new long[picks.size()][n + 1];
            for (int i = 0; i < picks.size(); i++) {
                Barrel x = now.barrels.get(picks.get(i));
                spare[i] = x.spare();
                for (int k = 1; k <= n; k++) {
                    dear[i][k] = x.dear((long) k * step);
                }
            }
            quiet = true;
            long best = Long.MAX_VALUE;
            long[] bestPlan = null;
            int[] ks = new int[picks.size()];
            long all = 1;
            for (int i = 0; i < ks.length; i++) {
                all *= n + 1;
            }
            for (long code = 0; code < all; code++) {
                long rest = code;
                int units = 0;
                long cost = 0;
                boolean fits = true;
                for (int i = ks.length - 1; i >= 0; i--) {
                    ks[i] = (int) (rest % (n + 1));
                    rest /= n + 1;
                    units += ks[i];
                    cost += dear[i][ks[i]];
                    fits &= (long) ks[i] * step <= spare[i];
                }
                if (units != n || !fits || cost >= best) {
                    continue;
                }
                TreeMap<Integer, Long> wine = new TreeMap<>();
                for (int i = 0; i < ks.length; i++) {
                    pour(drawFrom(picks.get(i), (long) ks[i] * step, new TreeMap<>()), wine);
                }
                boolean holds = true;
                for (Rule rule : label.rules) {
                    holds &= rule.holds(wine);
                }
                if (holds) {
                    best = cost;
                    bestPlan = new long[ks.length];
                    for (int i = 0; i < ks.length; i++) {
                        bestPlan[i] = (long) ks[i] * step;
                    }
                }
            }
            quiet = false;
            check(bestPlan == null, 14);
            planned = bestPlan;
            return best;
        });
    }

    long undo() {
        return act(false, () -> {
            check(was == null, 14);
            now = was;
            was = null;
            dropPicks();
            return 1;
        });
    }

    Barrel find(int b) {
        return b < 0 || b >= now.barrels.size() ? null : now.barrels.get(b);
    }

    int kindOf(int b) {
        return find(b) == null ? 0 : find(b).kind;
    }

    int where(int b) {
        return find(b) == null ? -1 : find(b).place;
    }

    int at(int r, int p) {
        Row row = now.rows.get(r);
        return row == null || p < 0 || p >= row.places.length ? -1 : row.places[p];
    }

    long amount(int b) {
        return find(b) == null ? 0 : find(b).has();
    }

    long part(int b, int part) {
        return find(b) == null ? 0 : find(b).all().getOrDefault(part, 0L);
    }

    int parts(int b) {
        Barrel x = find(b);
        return x == null ? 0 : x.kind == 5 ? x.members.size() : x.wine.size();
    }

    long account(int part, int how) {
        return how < 0 || how > 4 ? 0 : now.accounts.get(how).getOrDefault(part, 0L);
    }

    int month() {
        return now.months;
    }

    int bottlings() {
        return now.bottlings.size();
    }

    static long read(List<long[]> lines, int i, int what) {
        return i < 0 || i >= lines.size() || what < 0 || what > 3 ? -1 : lines.get(i)[what];
    }

    long bottling(int i, int what) {
        return read(now.bottlings, i, what);
    }

    int entries() {
        return now.journal.size();
    }

    long entry(int i, int what) {
        return read(now.journal, i, what);
    }

    int trace(int i) {
        return i < 0 || i >= Math.min(200, trace.size()) ? 0 : trace.get(i);
    }

    long planned(int i) {
        return i < 0 || i >= planned.length ? 0 : planned[i];
    }

    long digest() {
        List<Long> xs = new ArrayList<>();
        xs.add((long) now.barrels.size());
        for (int b = 0; b < now.barrels.size(); b++) {
            Barrel x = now.barrels.get(b);
            xs.add((long) x.kind);
            xs.add((long) x.size);
            xs.add((long) x.cents);
            xs.add((long) where(b));
            xs.add((long) parts(b));
            for (Map.Entry<Integer, Long> e : x.wine.entrySet()) {
                xs.add((long) e.getKey());
                xs.add(e.getValue());
            }
            for (int m : x.members) {
                xs.add((long) m);
            }
        }
        xs.add((long) month());
        xs.add((long) entries());
        long d = 7;
        for (long x : xs) {
            d = d * 31 + x;
        }
        return d;
    }
}
