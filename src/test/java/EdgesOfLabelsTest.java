/** The edges of promises 22 to 26: labels, plans, undo. */
public final class EdgesOfLabelsTest {
    private static final String FIVE = Edges.FIVE;
    private static final int MIN = Integer.MIN_VALUE;
    private static final int MAX = Integer.MAX_VALUE;

    private EdgesOfLabelsTest() {
    }

    /** Numbers in place of the @ that no label has, or that are not made yet behind one label. */
    private static String noLabels(String call) {
        StringBuilder all = new StringBuilder();
        for (int l : new int[] {-1, 40, MIN, MAX}) {
            all.append(call.replace("@", Integer.toString(l))).append("=-3;");
        }
        for (int l : new int[] {1, 39}) {
            all.append(call.replace("@", Integer.toString(l))).append("=-2;");
        }
        return all.toString();
    }

    private static void label() {
        Edges.edge(22, "A new label without rules. Answers its number.", FIVE, "label()=0; judge(0, 0)=1",
            "rule(0, 4, 1, 1, 1)=1; label()=1; rule(1, 4, 1, 1, 1)=1; undo()=1; label()=2");
        Edges.edge(22, "12: 40 are made", Edges.times(0, 38, l -> "label()"), "label()=39; label()=-12",
            "rule(39, 4, 1, 1, 1)=1; label()=-12");
    }

    private static void rule() {
        Edges.edge(23, "A label gets a rule behind those that it has", FIVE, "fill(0, 5, 9); label()",
            "rule(0, 4, 3, 5, 0)=1; rule(0, 4, 3, 6, 0)=2; rule(0, 4, 3, 7, 0)=3; judge(0, 0)=0; which()=1");
        Edges.edge(23, "EITHER takes the last two of them away, and is of these.", FIVE, "fill(0, 5, 9)",
            "fill(1, 6, 9); fill(2, 7, 9); label(); rule(0, 5, 3, 7, 0); rule(0, 4, 3, 5, 0); rule(0, 4, 3, 6, 0)",
            "rule(0, 6, 0, 0, 0)=2; judge(0, 0)=1; judge(1, 0)=1; judge(2, 0)=0; which()=0; judge(3, 0)=0; which()=1",
            "rule(0, 6, 0, 0, 0)=1; judge(3, 0)=1; judge(2, 0)=0; which()=0");
        Edges.edge(23, "Answers how many it has then.", "label(); label(); rule(1, 4, 1, 1, 1)=1",
            "rule(0, 4, 1, 1, 1)=1; rule(0, 4, 1, 1, 1)=2; rule(0, 6, 1, 1, 1)=1; rule(0, 4, 1, 1, 1)=2",
            "rule(1, 4, 1, 1, 1)=2");
        Edges.edge(23, "1 (op not 1 .. 6",
            "label(); rule(0, 0, 1, 1, 1)=-1; rule(0, 7, 1, 1, 1)=-1; rule(0, " + MIN + ", 1, 1, 1)=-1; rule(0, "
                + MAX + ", 1, 1, 1)=-1", Edges.times(1, 5, op -> "rule(0, " + op + ", 1, 1, 1)=" + op),
            "rule(0, 6, 1, 1, 1)=4");
        Edges.edge(23, "if it is not 6: dim not 1 .. 3", "label()",
            Edges.times(1, 5, op -> "rule(0, " + op + ", 0, 1, 1)=-1; rule(0, " + op + ", 4, 1, 1)=-1"),
            "rule(0, 1, " + MIN + ", 1, 1)=-1; rule(0, 1, " + MAX + ", 1, 1)=-1; rule(0, 1, 1, 1, 1)=1",
            "rule(0, 1, 3, 1, 1)=2");
        Edges.edge(23, "value not 0 .. 15", "label()",
            Edges.times(1, 5, op -> "rule(0, " + op + ", 1, -1, 1)=-1; rule(0, " + op + ", 1, 16, 1)=-1"),
            "rule(0, 1, 1, " + MIN + ", 1)=-1; rule(0, 1, 1, " + MAX + ", 1)=-1; rule(0, 1, 1, 0, 1)=1",
            "rule(0, 1, 1, 15, 1)=2");
        Edges.edge(23, "h not 0 .. 100, also where it is not used)", "label()",
            Edges.times(1, 5, op -> "rule(0, " + op + ", 1, 1, -1)=-1; rule(0, " + op + ", 1, 1, 101)=-1"),
            "rule(0, 5, 1, 1, " + MIN + ")=-1; rule(0, 5, 1, 1, " + MAX
                + ")=-1; rule(0, 5, 1, 1, 0)=1; rule(0, 5, 1, 1, 100)=2;",
            "rule(0, 1, 1, 1, 0)=3; rule(0, 2, 1, 1, 100)=4");
        Edges.edge(23, "if it is not 6",
            "label(); rule(0, 4, 1, 1, 1); rule(0, 4, 1, 1, 1); rule(0, 6, " + MIN + ", " + MAX
                + ", -1)=1; rule(0, 4, 1, 1, 1)=2; rule(0, 6, 0, 16, 101)=1; rule(0, 6, 4, -1, 101)=-10");
        Edges.edge(23, "l is looked up: 3, 2", "label()", noLabels("rule(@, 4, 1, 1, 1)"),
            noLabels("rule(@, 6, 1, 1, 1)"), "rule(0, 4, 1, 1, 1)=1");
        Edges.edge(23, "12: 20 rules were made for it", "label(); label()",
            Edges.times(1, 20, n -> "rule(0, 4, 1, 1, 1)=" + n), "rule(0, 4, 1, 1, 1)=-12; rule(0, 6, 1, 1, 1)=-12",
            "rule(1, 4, 1, 1, 1)=1");
        Edges.edge(23, "20 rules were made for it", "label(); rule(0, 4, 1, 1, 1)",
            Edges.times(1, 9, n -> "rule(0, 4, 1, 1, 1)=2; rule(0, 6, 0, 0, 0)=1"), "rule(0, 4, 1, 1, 1)=2",
            "rule(0, 6, 0, 0, 0)=-12; rule(0, 4, 1, 1, 1)=-12");
        Edges.edge(23, "10: EITHER, and it has less than two", "label(); rule(0, 6, 0, 0, 0)=-10",
            "rule(0, 4, 1, 1, 1)=1; rule(0, 6, 0, 0, 0)=-10; rule(0, 4, 1, 1, 1)=2; rule(0, 6, 0, 0, 0)=1",
            "rule(0, 6, 0, 0, 0)=-10");
        Edges.edge(23, "l is looked up: 3, 2; 12: 20 rules were made for it; 10: EITHER, and it has less than two.",
            "label(); rule(40, 0, 1, 1, 1)=-1; rule(40, 4, 0, 1, 1)=-1; rule(1, 4, 1, 16, 1)=-1",
            "rule(1, 4, 1, 1, 101)=-1; rule(0, 4, 1, 1, 1); rule(0, 4, 1, 1, 1)",
            Edges.times(1, 9, n -> "rule(0, 6, 0, 0, 0)=1; rule(0, 4, 1, 1, 1)=2"), "rule(0, 4, 1, 1, -1)=-1",
            "rule(0, 6, 0, 0, 0)=-12");
    }

    private static void judge() {
        Edges.edge(24, "Whether a label holds for a barrel's wine: 1, else 0.", FIVE, "fill(0, 5, 9); fill(2, 6, 1)",
            "label(); rule(0, 3, 3, 5, 0); judge(0, 0)=1; judge(2, 0)=0; join(4, 0); judge(4, 0)=1; join(4, 2)",
            "judge(4, 0)=0; traced()");
        Edges.edge(24, "WHICH becomes the first rule that does not hold, -1 if it holds.", FIVE, "fill(0, 5, 9)",
            "label(); rule(0, 4, 3, 5, 0); rule(0, 5, 3, 5, 0); rule(0, 5, 3, 5, 0); judge(0, 0)=0; which()=1",
            "label(); judge(0, 1)=1; which()=-1");
        Edges.edge(24, "b is looked up", FIVE,
            "label(); judge(-1, 0)=-3; judge(1000, 0)=-3; judge(5, 0)=-2; judge(999, 0)=-2; judge(" + MIN
                + ", 0)=-3; judge(" + MAX + ", 0)=-3; judge(4, 0)=1");
        Edges.edge(24, "l is looked up: 3, 2", FIVE, "label()", noLabels("judge(0, @)"), "judge(0, 0)=1");
        Edges.edge(24, "5, as told at LABELS", FIVE, "label(); rule(0, 5, 1, 1, 0); rule(0, 1, 1, 1, 0)",
            "judge(0, 0)=-5; which()=1; judge(4, 0)=-5; which()=1; fill(0, 5, 1); judge(0, 0)=1; which()=-1; wash(0)",
            "judge(0, 0)=-5; which()=1");
        Edges.edge(24, "Refused by another reason WHICH becomes -1.", FIVE, "fill(0, 5, 9); label()",
            "rule(0, 5, 3, 5, 0); judge(0, 0)=0; which()=0; judge(5, 0)=-2; which()=-1; judge(0, 0)=0; which()=0",
            "judge(1000, 0)=-3; which()=-1; judge(0, 0)=0; judge(0, 1)=-2; which()=-1; judge(0, 0)=0; judge(0, 40)=-3",
            "which()=-1");
        Edges.edge(24, "Reasons: b is looked up; l is looked up: 3, 2; 5, as told at LABELS.", FIVE, "judge(5, 40)=-2",
            "judge(1000, 0)=-3; judge(0, 40)=-3; judge(0, 0)=-2");
    }

    /** STEEL and GLASS with one part each, at these cents: 0 with part 5, 1 with part 6, .. */
    private static String steel(int... cents) {
        StringBuilder all = new StringBuilder("label();");
        for (int b = 0; b < cents.length; b++) {
            all.append("barrel(3, 1000, " + cents[b] + "); fill(" + b + ", " + (5 + b) + ", 100); pick(" + b + ", 1);");
        }
        return all.toString();
    }

    private static void plan() {
        Edges.edge(25, "for what is picked (its amounts are not looked at)", "label(); barrel(3, 1000, 7)",
            "fill(0, 5, 100); pick(0, 1000000000); plan(0, 12, 12)=84; planned(0)=12; blend(0)=-13; picked()=1");
        Edges.edge(25, "amounts of 0, step, 2 * step, .., each at most SPARE, with the sum ml", steel(3, 1),
            "plan(0, 200, 100)=400; planned(0)=100; planned(1)=100; plan(0, 150, 50)=250; planned(0)=50",
            "planned(1)=100; plan(0, 100, 100)=100; planned(0)=0; planned(1)=100; plan(0, 202, 101)=-14",
            "plan(0, 101, 101)=-14; plan(0, 300, 100)=-14; plan(0, 1200, 100)=-14");
        Edges.edge(25, "each at most SPARE", FIVE, "fill(0, 5, 110); fill(1, 6, 115); label(); pick(0, 1)",
            "plan(0, 101, 101)=-14; traced(5, 13); plan(0, 100, 100)=10000; forget(); pick(1, 1)",
            "plan(0, 101, 101)=-14; plan(0, 100, 100)=22000; join(4, 0); join(4, 1); forget(); pick(4, 1)",
            "plan(0, 201, 201)=-14; plan(0, 200, 200)=200000");
        Edges.edge(25, "for whose blend, drawn as told, a label holds", FIVE, "fill(2, 5, 1); fill(2, 6, 1); label()",
            "rule(0, 3, 3, 5, 0); pick(2, 1); plan(0, 1, 1)=300; plan(0, 2, 1)=-14; plan(0, 2, 2)=-14",
            "rule(0, 3, 3, 6, 0); plan(0, 1, 1)=-14");
        Edges.edge(25, "drawn as told", FIVE, "fill(0, 5, 15); fill(2, 6, 5); join(4, 0); join(4, 2); label()",
            "rule(0, 3, 3, 5, 0); pick(4, 1); plan(0, 5, 5)=5000; plan(0, 10, 5)=-14; label(); rule(1, 1, 3, 6, 50)",
            "plan(1, 10, 5)=10000; plan(1, 5, 5)=-14");
        Edges.edge(25, "with the least sum of DEAR of those above 0", steel(9, 5, 7), "plan(0, 90, 30)=450",
            "planned(1)=90; rule(0, 2, 3, 6, 34); plan(0, 90, 30)=570; planned(0)=0; planned(1)=30; planned(2)=60");
        Edges.edge(25, "Of several the one whose first amount is the least, then whose second one is, and so on.",
            steel(5, 5, 5), "plan(0, 90, 30)=450; planned(0)=0; planned(1)=0; planned(2)=90; plan(0, 150, 50)=750",
            "planned(0)=0; planned(1)=50; planned(2)=100; plan(0, 300, 100)=1500; planned(0)=100; rule(0, 4, 3, 5, 0)",
            "plan(0, 90, 30)=450; planned(0)=30; planned(1)=0; planned(2)=60");
        Edges.edge(25, "They are PLANNED then. Answers that sum.", steel(0, 0), "plan(0, 10, 10)=0; planned(0)=0",
            "planned(1)=10; why()=0; picked()=2; amount(1)=100");
    }

    private static void planRefused() {
        Edges.edge(25, "1 (ml not 1 .. 1000000000", steel(1), "plan(0, 0, 1)=-1; plan(0, -1, 1)=-1",
            "plan(0, 1000000001, 1)=-1",
            "plan(0, 1000000001, 1000000001)=-1; plan(0, " + Long.MIN_VALUE + ", 1)=-1; plan(0, " + Long.MAX_VALUE
                + ", 1)=-1", "plan(0, 4294967297, 1)=-1; plan(0, -12, 12)=-1; plan(0, 1, 1)=1",
            "plan(0, 1000000000, 1000000000)=-14; traced(7, 13)");
        Edges.edge(25, "step below 0)", steel(1),
            "plan(0, 12, -1)=-1; plan(0, 12, -12)=-1; plan(0, 12, " + MIN + ")=-1; plan(0, 12, 12)=12");
        Edges.edge(25, "5: step is 0", steel(1), "plan(0, 12, 0)=-5; plan(0, 1, 0)=-5; plan(0, 1000000000, 0)=-5",
            "traced()");
        Edges.edge(25, "1 (ml is no multiple of step, or above 12 of it)", steel(1),
            "plan(0, 7, 2)=-1; plan(0, 7, 8)=-1; plan(0, 7, " + MAX
                + ")=-1; plan(0, 13, 1)=-1; plan(0, 26, 2)=-1;",
            "plan(0, 12, 1)=12; plan(0, 24, 2)=24; plan(0, 7, 7)=7; plan(0, 25, 2)=-1");
        Edges.edge(25, "l is looked up: 3, 2", steel(1), noLabels("plan(@, 12, 1)"), "plan(0, 12, 1)=12");
        Edges.edge(25, "10: nothing is picked", "label(); plan(0, 12, 1)=-10; traced(); barrel(3, 9, 0); pick(0, 1)",
            "forget(); plan(0, 12, 1)=-10");
        Edges.edge(25, "12: more than 6 are", steel(1, 2, 3, 4, 5, 6, 7), "plan(0, 12, 1)=-12; traced(); forget()",
            Edges.times(0, 5, b -> "pick(" + b + ", 1)"), "plan(0, 600, 100)=2100; planned(5)=100; pick(6, 1)",
            "plan(0, 12, 1)=-12");
        Edges.edge(25, "9: one is in a cask", steel(1, 2), "barrel(5, 0, 0); join(2, 1); plan(0, 12, 1)=-9; traced()",
            "leave(2); join(2, 0); plan(0, 12, 1)=-9; leave(2); plan(0, 12, 1)=12");
        Edges.edge(25, "then of each, in order, SPARE is asked, then its DEAR of step, 2 * step, .. up to ml, then the"
                + " next one's", FIVE, "fill(2, 5, 3); label(); pick(2, 1); pick(1, 1); pick(4, 1); plan(0, 9, 3)=-14",
            "traced(7, 13, 13, 13, 6, 5, 14, 14, 14, 8, 15, 15, 15); plan(0, 3, 3)=900",
            "traced(7, 13, 6, 5, 14, 8, 15); forget(); pick(0, 1); plan(0, 12, 1)=-14",
            "traced(5, 13, 13, 13, 13, 13, 13, 13, 13, 13, 13, 13, 13)");
        Edges.edge(25, "14: there are no such amounts", steel(1), "rule(0, 4, 3, 6, 0); plan(0, 12, 1)=-14; label()",
            "plan(1, 12, 1)=12; plan(1, 101, 101)=-14; planned(0)=12; drain(0, 100, 1); plan(1, 1, 1)=-14",
            "planned(0)=12");
        Edges.edge(25, "Reasons: 1 (ml not 1 .. 1000000000, step below 0); 5: step is 0; 1 (ml is no multiple of step,"
                + " or above 12 of it); l is looked up: 3, 2; 10: nothing is picked; 12: more than 6 are; 9: one is"
                + " in a cask", "plan(40, 0, 0)=-1; plan(40, 12, 0)=-5; plan(40, 13, 1)=-1; plan(40, 12, 5)=-1",
            "plan(40, 12, 1)=-3; plan(0, 12, 1)=-2", steel(1, 2, 3, 4, 5, 6, 7), "barrel(5, 0, 0); join(7, 3)",
            "plan(0, 12, 1)=-12; plan(1, 12, 1)=-2; plan(0, 12, 0)=-5; forget(); plan(1, 12, 1)=-2; pick(3, 1)",
            "plan(0, 120, 120)=-9");
    }

    private static void undo() {
        Edges.edge(26, "Answers 1; nothing is picked any more.", FIVE, "fill(2, 5, 50); pick(2, 1); pick(0, 1)",
            "undo()=1; picked()=0; blend(3)=-10; amount(2)=0; pick(2, 1)=1");
        Edges.edge(26, "nothing is picked any more", FIVE, "fill(2, 5, 50); pick(2, 10); blend(0); undo()=1",
            "picked()=0; amount(2)=50");
        Edges.edge(26, "14: there is nothing to take back", FIVE, "undo()=1; pick(0, 1); undo()=-14; picked()=1",
            "undo()=-14; barrel(9, 9, 9)=-1; undo()=-14; wash(0)=0; undo()=1; undo()=-14");
        Edges.edge(26, "there is nothing to take back", "undo()=-14; label(); undo()=-14; forget(); undo()=-14",
            "room(0)=-2; undo()=-14; barrel(0, 0, 0)=-1; undo()=-14; traced(); row(0, 0, 0)=0; undo()=1",
            "lift(0, 0)=-6");
    }

    public static void main(String[] args) {
        label();
        rule();
        judge();
        plan();
        planRefused();
        undo();
        Edges.end(22, 26);
    }
}
