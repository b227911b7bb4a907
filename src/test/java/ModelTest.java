import java.util.ArrayDeque;
import java.util.Random;
import java.util.TreeMap;

/** Long runs of seeded calls, each answer and all that can be asked held against the Model. */
public final class ModelTest {
    private static final int CALLS = 512;
    private static final int[] EDGES = {-1, 0, 1, Integer.MIN_VALUE, Integer.MAX_VALUE, 1000, 999, 20, 40, 60, 61};
    private static int wrong = 0;
    /** Each act with the reasons that the document tells at it, but for barrel's 12: no run makes 1000. */
    private static final String[] TOLD = {
        "row 0 1 3 8 7", "barrel 0 1", "join 0 3 4 2 9 12", "leave 0 3 4 2", "lay 0 3 2 9 6 8 4", "lift 0 3 6 2",
        "worth 0 1 3 2", "fill 0 1 3 4 2 9 11 12", "rack 0 1 3 2 4 13 9 10 11 12", "topUp 0 3 4 2 13 9 11 10 12",
        "pick 0 1 3 2 13 12", "forget 0", "blend 0 10 3 4 2 13 9 11 12", "breathe 0 1", "bottle 0 1 3 2 9 10 5",
        "drain 0 1 3 4 2 9 10", "wash 0 3 4 2 9", "partAt 0 3 4 2", "amountAt 0 3 4 2", "room 0 3 2", "label 0",
        "rule 0 1 3 2 12 10", "judge 0 3 2 5", "plan 0 1 5 3 2 10 12 9 14", "undo 0 14"};
    private static final TreeMap<String, Integer> MET = new TreeMap<>();

    private final Random random;
    private final int barrelsWanted;
    private final int partsWanted;
    private final int sizeMost;
    private final int mlMost;
    private final int oddness;
    private final int labelsWanted;
    /** A wide run first fills few vessels with very many parts. */
    private final boolean wide;
    /** A planning run is at plans half of the time, with worths that often make several plans equal. */
    private final boolean planning;
    private final String name;
    private BlendCellar x;
    private Model m;
    private final ArrayDeque<String> latest = new ArrayDeque<>();

    private ModelTest(int seed) {
        random = new Random(seed);
        name = "run " + seed;
        wide = seed % 4 == 0;
        planning = seed % 4 == 1;
        barrelsWanted = wide || planning ? 7 : new int[] {4, 8, 14, 40, 250}[random.nextInt(5)];
        partsWanted = wide ? 90 : new int[] {3, 20, 90, 4096}[random.nextInt(4)];
        sizeMost = wide ? 1000000 : new int[] {30, 3000, 100000, 1000000000}[random.nextInt(4)];
        mlMost = Math.max(2, sizeMost / (wide ? 500 : new int[] {1, 10, 70}[random.nextInt(3)]));
        oddness = new int[] {10, 40, 400}[random.nextInt(3)];
        labelsWanted = upTo(5);
    }

    private int upTo(int most) {
        return random.nextInt(most + 1);
    }

    private int maybeOdd(int plain) {
        return random.nextInt(oddness) == 0 ? EDGES[random.nextInt(EDGES.length)] : plain;
    }

    private int someBarrel() {
        return maybeOdd(upTo(Math.min(barrelsWanted, Math.max(0, m.now.barrels.size()))));
    }

    private int somePart() {
        return maybeOdd(upTo(partsWanted - 1) * (partsWanted == 90 ? 41 : 1) & 4095);
    }

    private long someMl() {
        int kind = random.nextInt(30);
        if (kind == 0) {
            return new long[] {0, -1, 1000000000L, 1000000001L, Long.MAX_VALUE, Long.MIN_VALUE}[random.nextInt(6)];
        }
        return 1 + random.nextInt(kind < 8 ? Math.min(mlMost, 20) : mlMost);
    }

    private long someOf(int b) {
        long has = m.amount(b);
        if (has == 0 || random.nextInt(6) == 0) {
            return someMl();
        }
        return random.nextInt(3) == 0 ? has - upTo(3) : 1 + (long) (random.nextDouble() * has);
    }

    private void due(String call, long got, long want) {
        if (got != want) {
            wrong++;
            if (wrong < 20) {
                System.out.println(name + ": " + call + " answered " + got + ", due is " + want + "; behind " + latest);
            }
        }
    }

    private void said(String call, long got, long want) {
        latest.addLast(call + "=" + want);
        if (latest.size() > 12) {
            latest.removeFirst();
        }
        due(call, got, want);
        MET.merge(call.substring(0, call.indexOf('(')) + " " + Math.max(0, -want), 1, Integer::sum);
    }

    private void act() {
        int kind = random.nextInt(100);
        if (m.now.barrels.size() < barrelsWanted && random.nextInt(3) == 0) {
            kind = 0;
        }
        if (wide && m.tries < 250 && m.now.barrels.size() >= barrelsWanted && random.nextInt(10) != 0) {
            kind = 3;
        }
        if (planning && m.tries > 80 && random.nextBoolean()) {
            kind = random.nextInt(3) == 0 ? 82 : 77;
        }
        if (kind < 3) {
            int k = maybeOdd(1 + upTo(random.nextInt(3) == 0 ? 4 : 3));
            int size = maybeOdd(1 + random.nextInt(sizeMost));
            int cents = maybeOdd(planning ? upTo(3) : random.nextInt(4) == 0 ? 100 : upTo(3000));
            said("barrel(" + k + ", " + size + ", " + cents + ")", x.barrel(k, size, cents), m.barrel(k, size, cents));
        } else if (kind < 40) {
            moveWine(kind);
        } else if (kind < 62) {
            moveBarrels(kind);
        } else if (kind < 82) {
            judgeAndPlan(kind);
        } else if (kind < 92) {
            pickAndBlend(kind);
        } else if (kind < 95) {
            said("undo()", x.undo(), m.undo());
        } else if (kind < 98) {
            int b = someBarrel();
            int i = maybeOdd(upTo(Math.max(1, m.parts(b))));
            said("partAt(" + b + ", " + i + ")", x.partAt(b, i), m.partAt(b, i));
            said("amountAt(" + b + ", " + i + ")", x.amountAt(b, i), m.amountAt(b, i));
        } else {
            int b = someBarrel();
            said("room(" + b + ")", x.room(b), m.room(b));
        }
    }

    private void moveWine(int kind) {
        int b = someBarrel();
        int to = someBarrel();
        if (kind < 20) {
            b = wide && random.nextInt(4) != 0 ? upTo(2) : b;
            int part = somePart();
            long ml = someMl();
            said("fill(" + b + ", " + part + ", " + ml + ")", x.fill(b, part, ml), m.fill(b, part, ml));
        } else if (kind < 27) {
            long ml = someOf(b);
            said("rack(" + b + ", " + to + ", " + ml + ")", x.rack(b, to, ml), m.rack(b, to, ml));
        } else if (kind < 30) {
            said("topUp(" + b + ", " + to + ")", x.topUp(b, to), m.topUp(b, to));
        } else if (kind < 32) {
            int months = maybeOdd(1 + upTo(11));
            said("breathe(" + months + ")", x.breathe(months), m.breathe(months));
        } else if (kind < 35) {
            long ml = someOf(b);
            int n = maybeOdd(upTo(random.nextBoolean() ? 5 : 2000));
            said("bottle(" + b + ", " + n + ", " + ml + ")", x.bottle(b, n, ml), m.bottle(b, n, ml));
        } else if (kind < 39) {
            long ml = someOf(b);
            int how = maybeOdd(1 + upTo(1));
            said("drain(" + b + ", " + ml + ", " + how + ")", x.drain(b, ml, how), m.drain(b, ml, how));
        } else if (random.nextInt(3) == 0) {
            said("wash(" + b + ")", x.wash(b), m.wash(b));
        }
    }

    private int someCask() {
        for (int i = 0; i < 5; i++) {
            int b = someBarrel();
            if (m.kindOf(b) == 5) {
                return b;
            }
        }
        return someBarrel();
    }

    private void moveBarrels(int kind) {
        int b = someBarrel();
        int r = maybeOdd(upTo(6));
        int p = maybeOdd(upTo(5));
        if (kind < 46) {
            int c = someCask();
            said("join(" + c + ", " + b + ")", x.join(c, b), m.join(c, b));
        } else if (kind < 49) {
            int c = someCask();
            said("leave(" + c + ")", x.leave(c), m.leave(c));
        } else if (kind < 54) {
            said("lay(" + b + ", " + r + ", " + p + ")", x.lay(b, r, p), m.lay(b, r, p));
        } else if (kind < 57) {
            said("lift(" + r + ", " + p + ")", x.lift(r, p), m.lift(r, p));
        } else if (kind < 60) {
            int k = maybeOdd(upTo(6));
            int n = maybeOdd(upTo(6) - 1);
            said("row(" + r + ", " + k + ", " + n + ")", x.row(r, k, n), m.row(r, k, n));
        } else {
            int cents = maybeOdd(upTo(1000));
            said("worth(" + b + ", " + cents + ")", x.worth(b, cents), m.worth(b, cents));
        }
    }

    private void judgeAndPlan(int kind) {
        int l = maybeOdd(upTo(Math.min(labelsWanted, m.labels.size())));
        if (kind < 65) {
            if (m.labels.size() <= labelsWanted || random.nextInt(20) == 0) {
                said("label()", x.label(), m.label());
            }
        } else if (kind < 71) {
            int op = maybeOdd(1 + upTo(5));
            int dim = maybeOdd(1 + upTo(2));
            int value = maybeOdd(random.nextBoolean() ? 0 : upTo(15));
            int h = maybeOdd(upTo(random.nextBoolean() ? 100 : op == 1 ? 30 : 100));
            said("rule(" + l + ", " + op + ", " + dim + ", " + value + ", " + h + ")",
                x.rule(l, op, dim, value, h), m.rule(l, op, dim, value, h));
        } else if (kind < 77) {
            int b = someBarrel();
            said("judge(" + b + ", " + l + ")", x.judge(b, l), m.judge(b, l));
        } else {
            int step = maybeOdd(1 + upTo(random.nextBoolean() ? 3 : Math.max(1, mlMost / 8)));
            long ml = random.nextInt(12) == 0 ? someMl() : (long) step * (1 + upTo(m.picks.size() > 5 ? 4 : 12));
            said("plan(" + l + ", " + ml + ", " + step + ")", x.plan(l, ml, step), m.plan(l, ml, step));
        }
    }

    private void pickAndBlend(int kind) {
        int b = someBarrel();
        if (kind < 89) {
            long ml = someOf(b);
            said("pick(" + b + ", " + ml + ")", x.pick(b, ml), m.pick(b, ml));
        } else if (kind < 91 || random.nextInt(4) != 0) {
            said("blend(" + b + ")", x.blend(b), m.blend(b));
        } else {
            said("forget()", x.forget(), m.forget());
        }
    }

    private void askAll(boolean whole) {
        due("digest()", x.digest(), m.digest());
        due("why()", x.why(), m.why);
        due("which()", x.which(), m.which);
        due("tries()", x.tries(), m.tries);
        due("closed()", x.closed(), 1);
        due("picked()", x.picked(), m.picks.size());
        due("month()", x.month(), m.month());
        due("bottlings()", x.bottlings(), m.bottlings());
        due("entries()", x.entries(), m.entries());
        due("odd()", x.odd(), 0);
        due("strays()", x.strays(), 0);
        for (int i = -1; i < 9; i++) {
            due("planned(" + i + ")", x.planned(i), m.planned(i));
        }
        for (int i = -1; i < 203; i++) {
            due("trace(" + i + ")", x.trace(i), m.trace(i));
        }
        if (whole) {
            askRest();
        }
    }

    private void askRest() {
        for (int b = -1; b <= m.now.barrels.size(); b++) {
            due("kindOf(" + b + ")", x.kindOf(b), m.kindOf(b));
            due("where(" + b + ")", x.where(b), m.where(b));
            due("amount(" + b + ")", x.amount(b), m.amount(b));
            due("parts(" + b + ")", x.parts(b), m.parts(b));
            int part = somePart();
            due("part(" + b + ", " + part + ")", x.part(b, part), m.part(b, part));
        }
        for (int r = -1; r < 21; r++) {
            for (int p = -1; p < 61; p++) {
                due("at(" + r + ", " + p + ")", x.at(r, p), m.at(r, p));
            }
        }
        for (int part = -1; part <= 4096; part++) {
            for (int how = -1; how < 6; how++) {
                due("account(" + part + ", " + how + ")", x.account(part, how), m.account(part, how));
            }
        }
        for (int what = -1; what < 5; what++) {
            for (int i = -1; i <= m.entries(); i++) {
                due("entry(" + i + ", " + what + ")", x.entry(i, what), m.entry(i, what));
            }
            for (int i = -1; i <= m.bottlings(); i++) {
                due("bottling(" + i + ", " + what + ")", x.bottling(i, what), m.bottling(i, what));
            }
        }
    }

    private void run() {
        x = new BlendCellar();
        m = new Model();
        askAll(true);
        for (int i = 0; i < CALLS; i++) {
            act();
            askAll(i % 64 == 0);
        }
        askAll(true);
    }

    public static void main(String[] args) {
        int runs = args.length > 0 ? Integer.parseInt(args[0]) : 300;
        for (int seed = 1; seed <= runs; seed++) {
            new ModelTest(seed).run();
        }
        for (String act : TOLD) {
            String[] words = act.split(" ");
            for (int i = 1; i < words.length; i++) {
                if (!MET.containsKey(words[0] + " " + words[i])) {
                    wrong++;
                    System.out.println("no run came to " + words[0] + " with reason " + words[i]);
                }
            }
        }
        if (args.length > 0) {
            System.out.println(MET);
        }
        System.out.println(wrong == 0 ? "all answers are as due" : wrong + " answers are not as due");
        if (wrong != 0) {
            System.exit(1);
        }
    }
}
