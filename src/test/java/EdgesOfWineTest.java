/** The edges of promises 9 to 21: wine. */
public final class EdgesOfWineTest {
    private static final String FIVE = Edges.FIVE;
    /** Two vessels, 0 and 1, of the greatest size. */
    private static final String GREAT = "barrel(1, 1000000000, 0); barrel(1, 1000000000, 0);";
    private static final int MIN = Integer.MIN_VALUE;
    private static final int MAX = Integer.MAX_VALUE;

    private EdgesOfWineTest() {
    }

    /** Amounts that are not 1 .. 1000000000, in place of the @. */
    private static String noAmounts(String call) {
        StringBuilder all = new StringBuilder();
        for (long ml : new long[] {0, -1, 1000000001, 4294967297L, Long.MIN_VALUE, Long.MAX_VALUE}) {
            all.append(call.replace("@", Long.toString(ml))).append("=-1;");
        }
        return all.toString();
    }

    /** Numbers in place of the @ that no barrel has, or that are not made yet behind FIVE. */
    private static String noBarrels(String call) {
        StringBuilder all = new StringBuilder();
        for (int b : new int[] {-1, 1000, MIN, MAX}) {
            all.append(call.replace("@", Integer.toString(b))).append("=-3;");
        }
        for (int b : new int[] {5, 999}) {
            all.append(call.replace("@", Integer.toString(b))).append("=-2;");
        }
        return all.toString();
    }

    private static String noVessels(String call) {
        return noBarrels(call) + call.replace("@", "4") + "=-4;";
    }

    private static String partsOf(int b, int from, int to) {
        return Edges.times(from, to, i -> "fill(" + b + ", " + i + ", 1)");
    }

    private static long goneOfNew(long amount, int months) {
        long left = amount;
        for (int i = 0; i < months; i++) {
            left -= left * 35 / 10000;
        }
        return amount - left;
    }

    private static void fill() {
        Edges.edge(9, "Wine comes. Answers the vessel's amount then.", FIVE, "fill(0, 5, 1)=1; fill(0, 5, 9)=10",
            "fill(0, 6, 7)=17; part(0, 5)=10; part(0, 6)=7; account(5, 0)=10; fill(1, 5, 2)=2; account(5, 0)=12");
        Edges.edge(9, "1 (part not 0 .. 4095", FIVE,
            "fill(0, -1, 1)=-1; fill(0, 4096, 1)=-1; fill(0, " + MIN + ", 1)=-1",
            "fill(0, " + MAX + ", 1)=-1; fill(0, 0, 1)=1; fill(0, 4095, 1)=2; part(0, 4095)=1; part(0, 0)=1");
        Edges.edge(9, "ml not 1 .. 1000000000)", GREAT, noAmounts("fill(0, 5, @)"), "fill(0, 5, 1)=1",
            "fill(1, 5, 1000000000)=1000000000");
        Edges.edge(9, "b is looked up as a vessel", FIVE, noVessels("fill(@, 5, 1)"));
        Edges.edge(9, "9: it is in a cask", FIVE, "join(4, 0); fill(0, 5, 1)=-9; traced(); leave(4); fill(0, 5, 1)=1");
        Edges.edge(9, "MOST of it is asked", FIVE, "fill(0, 5, 1)=1; traced(1); fill(1, 5, 1)=1; traced(1)",
            "fill(2, 5, 1)=1; traced(2); fill(3, 5, 1)=1; traced(3, 2)");
        Edges.edge(9, "11: its amount and ml are above that", FIVE, "fill(0, 5, 9999); fill(0, 5, 2)=-11",
            "fill(0, 6, 1)=10000; fill(0, 5, 1)=-11; fill(2, 5, 9799); fill(2, 5, 2)=-11; fill(2, 5, 1)=9800",
            "fill(3, 5, 9791)=-11; fill(3, 5, 1000000000)=-11");
        Edges.edge(9, "its amount and ml are above", "barrel(1, 1000000000, 0); fill(0, 5, 1000000000)",
            "fill(0, 5, 1000000000)=-11; fill(0, 6, 1000000000)=-11; amount(0)=1000000000");
        Edges.edge(9, "12: it has 60 other parts", FIVE, partsOf(0, 1, 59), "fill(0, 60, 1)=60; fill(0, 0, 1)=-12",
            "traced(1); fill(0, 61, 1)=-12; fill(0, 4095, 1)=-12; fill(0, 1, 1)=61; fill(0, 60, 1)=62; parts(0)=60");
        Edges.edge(9, "60 other parts", FIVE, partsOf(2, 1, 60), "fill(2, 61, 1)=-12; drain(2, 1, 1)=59",
            "fill(2, 61, 1)=60");
        Edges.edge(9, "Reasons: 1 (part not 0 .. 4095, ml not 1 .. 1000000000); b is looked up as a vessel; 9: it is"
                + " in a cask; MOST of it is asked; 11: its amount and ml are above that; 12: it has 60 other parts.",
            FIVE, "fill(1000, -1, 1)=-1; fill(1000, 5, 0)=-1; fill(4, 5, 0)=-1; barrel(1, 60, 0)", partsOf(5, 1, 60),
            "fill(5, 61, 1)=-11; fill(2, 5, 9800); join(4, 2); fill(2, 6, 1)=-9; traced(); fill(2, 6, 0)=-1",
            "join(4, 5); fill(5, 61, 1)=-9");
    }

    private static void rack() {
        Edges.edge(10, "ml are drawn from a barrel into a vessel. Answers what that has then.", FIVE, "fill(2, 5, 10)",
            "fill(3, 6, 3); rack(2, 3, 4)=7; part(3, 5)=4; part(2, 5)=6; rack(3, 2, 7)=13; amount(3)=0; parts(3)=0");
        Edges.edge(10, "1 (ml not 1 .. 1000000000)", GREAT, "barrel(5, 0, 0); fill(0, 5, 1000000000)",
            noAmounts("rack(0, 1, @)"), "rack(0, 1, 1)=1; rack(0, 1, 1000000000)=-10; rack(1, 0, 1)=-10; traced(5)");
        Edges.edge(10, "from is looked up", FIVE, noBarrels("rack(@, 0, 1)"), "rack(4, 0, 1)=-10");
        Edges.edge(10, "to as a vessel", FIVE, noVessels("rack(0, @, 1)"));
        Edges.edge(10, "13: they are the same", FIVE, "fill(2, 5, 9); rack(2, 2, 1)=-13; traced(); rack(2, 3, 1)=1");
        Edges.edge(10, "9: from, or to, is in a cask", FIVE, "fill(2, 5, 9); fill(3, 5, 9); join(4, 2)",
            "rack(2, 3, 1)=-9; rack(3, 2, 1)=-9; traced(); rack(4, 2, 1)=-9; join(4, 3); rack(2, 3, 1)=-9",
            "rack(4, 0, 1)=1");
        Edges.edge(10, "SPARE of from is asked; 10: ml is above that", FIVE, "fill(2, 5, 9); rack(2, 0, 10)=-10",
            "traced(7); rack(2, 0, 9)=9; traced(7, 1); rack(2, 0, 1)=-10; fill(0, 5, 2); rack(0, 2, 2)=-10",
            "rack(0, 2, 1)=1; traced(5, 2)");
        Edges.edge(10, "MOST of to is asked; 11: its amount and ml are above that", FIVE, "fill(2, 5, 100)",
            "fill(0, 5, 9999); rack(2, 0, 2)=-11; traced(7, 1); rack(2, 0, 1)=10000; rack(2, 0, 1)=-11",
            "fill(3, 5, 9790); rack(2, 3, 1)=-11; traced(7, 3, 2)");
        Edges.edge(10, "12: it would have more than 60 parts", FIVE, partsOf(2, 1, 59), "fill(3, 60, 1)",
            "fill(3, 61, 1); rack(3, 2, 2)=-12; traced(7, 2); rack(3, 2, 1)=60; parts(2)=60; part(2, 60)=1",
            "rack(3, 2, 1)=-12; fill(3, 1, 1); drain(3, 2, 1); fill(3, 59, 4); rack(3, 2, 4)=64; parts(2)=60");
        Edges.edge(10, "more than 60 parts", FIVE, partsOf(2, 1, 60), partsOf(3, 1, 60), "rack(2, 3, 60)=120",
            "parts(3)=60; parts(2)=0; fill(2, 61, 60); rack(3, 2, 1)=61; rack(2, 3, 2)=-12; rack(3, 2, 119)=-12");
        Edges.edge(10, "Reasons: 1 (ml not 1 .. 1000000000); from is looked up; to as a vessel; 13: they are the same;"
                + " 9: from, or to, is in a cask; SPARE of from is asked; 10: ml is above that; MOST of to is asked;"
                + " 11: its amount and ml are above that; 12: it would have more than 60 parts.", FIVE,
            "rack(1000, 4, 0)=-1; rack(5, 1000, 1)=-2; rack(1000, 5, 1)=-3; rack(5, 4, 1)=-2; rack(4, 4, 1)=-4",
            "rack(5, 5, 1)=-2; rack(0, 0, 0)=-1; barrel(1, 60, 0)", partsOf(5, 1, 60), "rack(0, 5, 1)=-10; traced(5)",
            "fill(2, 61, 1); rack(2, 5, 1)=-11; rack(2, 5, 2)=-10; join(4, 0); rack(0, 0, 1)=-13; rack(0, 5, 1)=-9",
            "rack(0, 5, 0)=-1; rack(2, 0, 2)=-9; traced()");
    }

    private static void topUp() {
        Edges.edge(11, "x, the lesser of MOST less its amount, and SPARE, is drawn. Answers x.", FIVE,
            "fill(0, 5, 9000); fill(2, 6, 1000); topUp(0, 2)=1000; traced(1, 7); topUp(2, 0)=9800; traced(2, 5)",
            "amount(0)=200; fill(3, 7, 9790); topUp(1, 3)=9790; topUp(1, 0)=190; topUp(1, 2)=20; traced(1, 7)",
            "amount(1)=10000");
        Edges.edge(11, "the lesser", FIVE, "fill(2, 5, 9000); fill(3, 6, 800); topUp(2, 3)=800; amount(2)=9800",
            "amount(3)=0");
        Edges.edge(11, "the lesser", "barrel(5, 0, 0)",
            Edges.times(1, 4, b -> "barrel(1, 1000000000, 0); fill(" + b + ", 5, 1000000000); join(0, " + b + ")"),
            "barrel(1, 1000000000, 0); topUp(5, 0)=1000000000; amount(0)=3000000000; barrel(2, 7, 0); topUp(6, 0)=7");
        Edges.edge(11, "to is looked up as a vessel", FIVE, noVessels("topUp(@, 0)"));
        Edges.edge(11, "from is looked up", FIVE, noBarrels("topUp(0, @)"), "topUp(0, 4)=-10; traced(1, 8)");
        Edges.edge(11, "13;", FIVE, "fill(2, 5, 9); topUp(2, 2)=-13; traced()");
        Edges.edge(11, "9, as at rack", FIVE, "fill(2, 5, 9); fill(3, 5, 9); join(4, 2); topUp(3, 2)=-9",
            "topUp(2, 3)=-9; traced(); topUp(2, 4)=-9; join(4, 3); topUp(2, 3)=-9; topUp(0, 4)=18",
            "traced(1, 8, 7, 7, 7, 7)");
        Edges.edge(11, "11: MOST less its amount is not above 0", FIVE, "fill(2, 5, 100); fill(0, 5, 9999)",
            "topUp(0, 2)=1; topUp(0, 2)=-11; traced(1, 7); barrel(4, 10, 0); topUp(5, 2)=-11; traced(3, 2, 7)",
            "barrel(4, 1, 0); topUp(6, 2)=-11; barrel(4, 11, 0); topUp(7, 2)=1");
        Edges.edge(11, "10: SPARE is 0", FIVE, "topUp(0, 2)=-10; traced(1, 7); fill(0, 5, 10); topUp(2, 0)=-10",
            "traced(2, 5); fill(0, 5, 1); topUp(2, 0)=1; topUp(2, 0)=-10; fill(1, 5, 15); topUp(2, 1)=-10",
            "fill(1, 5, 1); topUp(2, 1)=1");
        Edges.edge(11, "12, as at rack", FIVE, partsOf(2, 1, 59), "fill(3, 60, 1); fill(3, 61, 1); topUp(2, 3)=-12",
            "traced(2, 7); drain(3, 1, 1); topUp(2, 3)=1; parts(2)=60; fill(3, 61, 5); topUp(2, 3)=5; fill(3, 0, 1)",
            "topUp(2, 3)=-12");
        Edges.edge(11, "12, as at rack", FIVE, "barrel(1, 62, 0)", partsOf(5, 1, 60), "fill(3, 61, 1); fill(3, 5, 1)",
            "fill(3, 6, 9); fill(5, 1, 1); topUp(5, 3)=1; part(5, 5)=2; parts(5)=60");
        Edges.edge(11, "Reasons: to is looked up as a vessel; from is looked up; 13; 9, as at rack; MOST of to is"
                + " asked, then SPARE of from; 11: MOST less its amount is not above 0; 10: SPARE is 0; 12, as at"
                + " rack.", FIVE, "topUp(4, 1000)=-4; topUp(5, 1000)=-2; topUp(1000, 5)=-3; topUp(4, 4)=-4",
            "topUp(5, 5)=-2; barrel(1, 60, 0)", partsOf(5, 1, 60), "topUp(5, 0)=-11; traced(1, 5); fill(0, 61, 20)",
            "topUp(5, 0)=-11; join(4, 5); topUp(5, 5)=-13; topUp(5, 0)=-9; topUp(0, 5)=-9; traced()");
    }

    private static void pick() {
        Edges.edge(12, "A barrel with an amount is PICKED, behind those that are. Answers how many are.", FIVE,
            "fill(0, 5, 99); fill(2, 6, 99); fill(3, 7, 99); pick(3, 3)=1; pick(0, 4)=2; pick(2, 5)=3; blend(1)=12",
            "entry(3, 1)=3; entry(4, 1)=0; entry(5, 1)=2; entry(3, 3)=3; entry(4, 3)=4; entry(5, 3)=5");
        Edges.edge(12, "1 (ml not 1 .. 1000000000)", FIVE, noAmounts("pick(0, @)"), "pick(0, 1)=1",
            "pick(1, 1000000000)=2");
        Edges.edge(12, "b is looked up", FIVE, noBarrels("pick(@, 1)"), "pick(4, 1)=1; join(4, 0); pick(0, 1)=2");
        Edges.edge(12, "13: it is picked already", FIVE, "pick(0, 1)=1; pick(0, 1)=-13; pick(0, 2)=-13; forget()=1",
            "pick(0, 2)=1");
        Edges.edge(12, "12: 8 are picked", Edges.times(0, 8, b -> "barrel(3, 9, 0)"),
            Edges.times(0, 7, b -> "pick(" + b + ", 1)=" + (b + 1)), "pick(8, 1)=-12; picked()=8; pick(0, 1)=-13");
        Edges.edge(12,
            "Reasons: 1 (ml not 1 .. 1000000000); b is looked up; 13: it is picked already; 12: 8 are picked.",
            Edges.times(0, 8, b -> "barrel(3, 9, 0)"), Edges.times(0, 7, b -> "pick(" + b + ", 1)"),
            "pick(1000, 0)=-1; pick(9, 0)=-1; pick(0, 0)=-1; pick(8, 0)=-1; pick(7, 1)=-13; pick(9, 1)=-2",
            "pick(1000, 1)=-3");
    }

    private static void forget() {
        Edges.edge(13, "Nothing is picked any more. Answers how many were.", FIVE, "forget()=0; pick(0, 1)",
            "forget()=1; picked()=0; blend(2)=-10; forget()=0; pick(0, 1)=1");
        Edges.edge(13, "how many were", Edges.times(0, 7, b -> "barrel(3, 9, 0); pick(" + b + ", 1)"), "forget()=8",
            "forget()=0");
    }

    /** Makes cask c with four members behind it, 2 of a part of its own in each, and picks all of it. */
    private static String fullCask(int c) {
        return "barrel(5, 0, 0); pick(" + c + ", 8);"
            + Edges.times(c + 1, c + 4, b -> "barrel(3, 9, 0); fill(" + b + ", " + b + ", 2)")
            + Edges.times(c + 1, c + 4, b -> "join(" + c + ", " + b + ")");
    }

    private static void blend() {
        Edges.edge(14, "Of each that is picked its amount is drawn, in order, all into a vessel", FIVE,
            "fill(2, 5, 10); fill(3, 6, 10); fill(0, 5, 3); pick(3, 10); pick(2, 9); blend(0)=19; amount(0)=22",
            "part(0, 5)=12; part(0, 6)=10; amount(2)=1; amount(3)=0; parts(3)=0; entries()=5");
        Edges.edge(14, "Of each that is picked",
            Edges.times(0, 8, b -> "barrel(3, 9, 0); fill(" + b + ", " + b + ", 1)"),
            Edges.times(0, 7, b -> "pick(" + b + ", 1)"), "blend(8)=8; parts(8)=9; amount(8)=9; entries()=17",
            "amount(7)=0");
        Edges.edge(14, "Of each that is picked its amount is drawn",
            Edges.times(0, 7, c -> fullCask(5 * c)),
            "barrel(1, 64, 0); blend(40)=64; parts(40)=32; part(40, 39)=2; amount(39)=0; amount(35)=0; undo()=1",
            "amount(0)=8; amount(35)=8");
        Edges.edge(14, "then nothing is picked any more", FIVE, "fill(2, 5, 10); pick(2, 5); blend(0)=5; picked()=0",
            "blend(0)=-10");
        Edges.edge(14, "Answers their sum.", FIVE, "fill(2, 5, 10); fill(0, 6, 50); pick(2, 1); blend(0)=1",
            "amount(0)=51");
        Edges.edge(14, "10: nothing is picked", FIVE, "blend(0)=-10; traced(); blend(1000)=-10; blend(5)=-10",
            "blend(4)=-10");
        Edges.edge(14, "to is looked up as a vessel", FIVE, "pick(0, 1)", noVessels("blend(@)"), "picked()=1");
        Edges.edge(14, "13: it is picked", FIVE, "fill(2, 5, 9); fill(3, 5, 9); pick(2, 1); pick(3, 1); blend(2)=-13",
            "blend(3)=-13");
        Edges.edge(14, "9: it is in a cask, or one that is picked is", FIVE, "fill(2, 5, 9); fill(3, 5, 9)",
            "pick(2, 1); pick(3, 1); join(4, 0); blend(0)=-9; traced(); join(4, 2); blend(1)=-9; leave(4); join(4, 3)",
            "blend(1)=-9; leave(4); blend(1)=2");
        Edges.edge(14, "of each that is picked, in order, SPARE is asked, then 10: its amount is above that", FIVE,
            "fill(2, 5, 9); fill(0, 5, 20); fill(1, 6, 20); pick(2, 9); pick(0, 11); pick(1, 5); blend(3)=-10",
            "traced(7, 5); fill(0, 5, 1); blend(3)=25; traced(7, 5, 6, 5, 3, 2)");
        Edges.edge(14, "its amount is above that", FIVE, "fill(2, 5, 9); pick(2, 10); blend(3)=-10; traced(7)",
            "fill(2, 5, 1); blend(3)=10; amount(2)=0");
        Edges.edge(14, "MOST of to is asked; 11: its amount and the sum are above that", FIVE, "fill(2, 5, 9)",
            "fill(3, 5, 9); fill(0, 5, 9990); pick(2, 5); pick(3, 6); blend(0)=-11; traced(7, 7, 1); drain(0, 1, 1)",
            "blend(0)=11; amount(0)=10000");
        Edges.edge(14, "its amount and the sum are above that",
            Edges.times(0, 2, b -> "barrel(1, 1000000000, 0); fill(" + b + ", 5, 1000000000)"),
            "pick(0, 999000000); pick(1, 999000000); pick(2, 999000000)",
            "barrel(1, 1000000000, 0); blend(3)=-11; traced(5, 5, 5, 1)");
        Edges.edge(14, "12: it would have more than 60 parts", FIVE, partsOf(0, 1, 58), "fill(2, 59, 1)",
            "fill(2, 60, 1); fill(3, 61, 1); fill(3, 60, 1); pick(2, 2); pick(3, 1); blend(0)=3; parts(0)=60; undo()",
            "pick(2, 2); pick(3, 2); blend(0)=-12; traced(7, 7, 1); picked()=2");
        Edges.edge(14, "more than 60 parts", FIVE, partsOf(2, 1, 59), "fill(3, 60, 1); fill(0, 61, 1); pick(2, 59)",
            "pick(3, 1); blend(0)=-12; blend(1)=60; parts(1)=60");
        Edges.edge(14, "Reasons: 10: nothing is picked; to is looked up as a vessel; 13: it is picked; 9: it is in a"
                + " cask, or one that is picked is; of each that is picked, in order, SPARE is asked, then 10: its"
                + " amount is above that; MOST of to is asked; 11: its amount and the sum are above that; 12: it"
                + " would have more than 60 parts.", FIVE, "pick(4, 1); blend(4)=-4; forget(); barrel(1, 60, 0)",
            partsOf(5, 1, 60), "pick(0, 1); blend(5)=-10; traced(5); fill(0, 61, 11); blend(5)=-11; join(4, 0)",
            "blend(0)=-13; blend(5)=-9; leave(4); drain(0, 11, 1); join(4, 5); blend(5)=-9; traced()");
    }

    private static void breathe() {
        Edges.edge(15, "So many months go by.", "breathe(1)=0; month()=1; traced(); breathe(12)=0; month()=13",
            "entries()=2");
        Edges.edge(15, "Of each barrel, by numbers, RATE is asked once", FIVE, "breathe(12)=0",
            "traced(10, 11, 10, 9, 12, 9); join(4, 1); breathe(2)=0; traced(10, 11, 10, 9, 12, 9)");
        Edges.edge(15, "then from each vessel in each month its amount * RATE / 10000 is drawn and gone", FIVE,
            "fill(0, 5, 10000); breathe(1)=20; breathe(2)=38; amount(0)=9942; account(5, 1)=58; undo()=1; undo()=-14",
            "breathe(3)=57; amount(0)=9923");
        Edges.edge(15, "in each month its amount", FIVE, "fill(0, 5, 500); breathe(12)=1; amount(0)=499",
            "fill(1, 5, 286); breathe(12)=1; amount(1)=285");
        Edges.edge(15, "from each vessel", FIVE, "fill(0, 5, 600); fill(1, 6, 600); fill(2, 7, 600); join(4, 0)",
            "join(4, 2); breathe(1)=3; amount(0)=599; amount(1)=598; amount(2)=600; amount(4)=1199; where(0)=10004");
        Edges.edge(15, "is drawn and gone", "barrel(1, 1000000, 0); fill(0, 5, 200); fill(0, 6, 400); breathe(1)=1",
            "part(0, 5)=199; part(0, 6)=400; account(5, 1)=1; account(6, 1)=0; odd()=0");
        Edges.edge(15, "Answers what is gone in all.", GREAT, "barrel(2, 1000000000, 0); fill(0, 5, 1000000000)",
            "fill(1, 5, 1000000000); fill(2, 5, 1000000000); breathe(1)=7500000; entry(3, 3)=7500000");
        Edges.edge(15, "what is gone in all",
            Edges.times(0, 59, b -> "barrel(2, 1000000000, 0); fill(" + b + ", 5, 1000000000)"),
            "breathe(12)=" + 60 * goneOfNew(1000000000L, 12), "entry(60, 3)=" + 60 * goneOfNew(1000000000L, 12));
        Edges.edge(15, "1 (m not 1 .. 12)", FIVE,
            "breathe(0)=-1; breathe(13)=-1; breathe(-1)=-1; breathe(" + MIN + ")=-1; breathe(" + MAX
                + ")=-1; traced(); month()=0; entries()=0; breathe(1)=0; breathe(12)=0");
    }

    private static void bottle() {
        Edges.edge(16, "n bottles of all / n each are filled: so much is drawn.", FIVE, "fill(2, 5, 100)",
            "bottle(2, 7, 100)=1; amount(2)=2; account(5, 4)=98; bottling(0, 2)=7; bottling(0, 3)=14",
            "bottle(2, 2, 2)=2; amount(2)=0; parts(2)=0");
        Edges.edge(16, "Answers the bottling's number.", FIVE, "fill(2, 5, 9); bottle(2, 1, 1)=1",
            "bottle(2, 1, 100)=-10; bottle(2, 1, 1)=2; bottle(2, 0, 1)=-5; bottle(2, 1, 1)=3");
        Edges.edge(16, "1 (n not 0 .. 1000000", "barrel(1, 1000000000, 0); fill(0, 5, 1000000000)",
            "bottle(0, -1, 5)=-1",
            "bottle(0, 1000001, 5000000)=-1; bottle(0, " + MIN + ", 5)=-1; bottle(0, " + MAX
                + ", 5)=-1; bottle(0, 1000000, 1000000)=1", "bottle(0, 0, 5)=-5; bottle(0, 1, 5)=2",
            "bottle(0, 1000000, 900000001)=3; bottling(2, 3)=900; amount(0)=98999995");
        Edges.edge(16, "all not 1 .. 1000000000)", GREAT, "fill(0, 5, 1000000000)", noAmounts("bottle(0, 1, @)"),
            "bottle(0, 1, 1000000000)=-10; bottle(0, 1, 1)=1");
        Edges.edge(16, "all not 1 .. 1000000000)", "barrel(5, 0, 0)",
            Edges.times(1, 2, b -> "barrel(1, 1000000000, 0); fill(" + b + ", 5, 1000000000); join(0, " + b + ")"),
            "bottle(0, 1, 1000000001)=-1; bottle(0, 1, 1000000000)=1; amount(0)=1000000000");
        Edges.edge(16, "b is looked up", FIVE, noBarrels("bottle(@, 1, 1)"), "bottle(4, 1, 1)=-10");
        Edges.edge(16, "9: it is in a cask", FIVE, "fill(2, 5, 9); join(4, 2); bottle(2, 1, 1)=-9; traced()",
            "bottle(4, 1, 1)=1");
        Edges.edge(16, "SPARE of it is asked; 10: all is above that", FIVE, "fill(0, 5, 20); bottle(0, 1, 11)=-10",
            "traced(5); bottle(0, 1, 10)=1; traced(5); bottle(0, 1, 1)=-10; bottle(0, 3, 1)=-10; fill(2, 5, 5)",
            "bottle(2, 4, 6)=-10; bottle(2, 4, 5)=2; amount(2)=1");
        Edges.edge(16, "5: n is 0", FIVE, "fill(2, 5, 9); bottle(2, 0, 9)=-5; traced(7); bottle(2, 0, 10)=-10");
        Edges.edge(16, "10: all / n is 0", FIVE, "fill(2, 5, 9); bottle(2, 6, 5)=-10; traced(7)",
            "bottle(2, 1000000, 9)=-10; bottle(2, 5, 5)=1; bottling(0, 3)=1; amount(2)=4");
        Edges.edge(16, "Reasons: 1 (n not 0 .. 1000000, all not 1 .. 1000000000); b is looked up; 9: it is in a cask;"
                + " SPARE of it is asked; 10: all is above that; 5: n is 0; 10: all / n is 0.", FIVE,
            "bottle(1000, -1, 1)=-1; bottle(5, 1, 0)=-1; bottle(5, 0, 1)=-2; bottle(1000, 0, 1)=-3",
            "bottle(2, 0, 1)=-10; traced(7); join(4, 2); bottle(2, 0, 1)=-9; bottle(2, 0, 0)=-1");
    }

    private static void drain() {
        Edges.edge(17, "ml are drawn from a vessel and tasted (how 1) or spilt (2).", FIVE, "fill(2, 5, 9)",
            "drain(2, 4, 1)=5; drain(2, 3, 2)=2; account(5, 2)=4; account(5, 3)=3; entry(1, 0)=7; entry(2, 0)=8");
        Edges.edge(17, "Answers what it has then.", FIVE, "fill(0, 5, 9); drain(0, 8, 1)=1; drain(0, 1, 2)=0",
            "parts(0)=0; traced()");
        Edges.edge(17, "1 (how;", FIVE,
            "fill(2, 5, 9); drain(2, 1, 0)=-1; drain(2, 1, 3)=-1; drain(2, 1, -1)=-1; drain(2, 1, " + MIN
                + ")=-1; drain(2, 1, " + MAX + ")=-1; drain(2, 1, 1)=8; drain(2, 1, 2)=7");
        Edges.edge(17, "ml not 1 .. 1000000000)", GREAT, "fill(0, 5, 1000000000)", noAmounts("drain(0, @, 1)"),
            noAmounts("drain(0, @, 2)"), "drain(0, 1000000000, 1)=0; fill(0, 5, 1); drain(0, 1, 2)=0");
        Edges.edge(17, "b is looked up as a vessel", FIVE, noVessels("drain(@, 1, 1)"), noVessels("drain(@, 1, 2)"));
        Edges.edge(17, "9: it is in a cask", FIVE, "fill(2, 5, 9); join(4, 2); drain(2, 1, 1)=-9; drain(2, 1, 2)=-9",
            "leave(4); drain(2, 1, 1)=8");
        Edges.edge(17, "2: it is empty", FIVE, "drain(0, 1, 1)=-2; fill(0, 5, 1); drain(0, 1, 1)=0; drain(0, 1, 2)=-2");
        Edges.edge(17, "10: it has less", FIVE, "fill(0, 5, 9); drain(0, 10, 1)=-10; drain(0, 1000000000, 2)=-10",
            "drain(0, 9, 1)=0");
        Edges.edge(17, "Reasons: 1 (how; ml not 1 .. 1000000000); b is looked up as a vessel; 9: it is in a cask; 2:"
                + " it is empty; 10: it has less.", FIVE, "drain(1000, 1, 0)=-1; drain(4, 0, 1)=-1; drain(5, 1, 3)=-1",
            "join(4, 2); drain(2, 1, 1)=-9; drain(2, 0, 1)=-1; leave(4); fill(2, 5, 1); join(4, 2); drain(2, 2, 1)=-9");
    }

    private static void wash() {
        Edges.edge(18, "All that a vessel has is spilt. Answers how much that was.", FIVE, "fill(0, 5, 9)",
            "fill(0, 6, 8); wash(0)=17; traced(); amount(0)=0; parts(0)=0; account(5, 3)=9; account(6, 3)=8",
            "wash(0)=0; entries()=4");
        Edges.edge(18, "how much that was", GREAT, "wash(1)=0; fill(0, 5, 1000000000); wash(0)=1000000000; undo()=1",
            "wash(1)=0; undo()=1");
        Edges.edge(18, "b is looked up as a vessel", FIVE, noVessels("wash(@)"));
        Edges.edge(18, "9: it is in a cask", FIVE, "fill(2, 5, 9); join(4, 2); wash(2)=-9; join(4, 0); wash(0)=-9",
            "leave(4); wash(0)=0");
    }

    private static void partAt() {
        Edges.edge(19, "Part i, from 0, of a vessel's wine.", FIVE, "fill(0, 9, 1); fill(0, 0, 2); partAt(0, 0)=0",
            "partAt(0, 1)=9; traced(); join(4, 0); partAt(0, 1)=9", partsOf(2, 1, 60), "partAt(2, 59)=60",
            "partAt(2, 60)=-3");
        Edges.edge(19, "b is looked up as a vessel", FIVE, noVessels("partAt(@, 0)"));
        Edges.edge(19, "2: it is empty", FIVE, "partAt(0, 0)=-2; fill(0, 5, 1); wash(0); partAt(0, 0)=-2");
        Edges.edge(19, "3: it has no part i", FIVE,
            "fill(0, 5, 1); partAt(0, 1)=-3; partAt(0, -1)=-3; partAt(0, " + MIN + ")=-3",
            "partAt(0, " + MAX + ")=-3; partAt(0, 0)=5");
        Edges.edge(19, "Reasons: b is looked up as a vessel; 2: it is empty; 3: it has no part i.", FIVE,
            "partAt(0, -1)=-2; partAt(0, 1)=-2; partAt(4, -1)=-4; partAt(5, -1)=-2");
    }

    private static void amountAt() {
        Edges.edge(20, "How much of part i, from 0, a vessel has.", FIVE, "fill(0, 9, 1); fill(0, 0, 2)",
            "amountAt(0, 0)=2; amountAt(0, 1)=1; traced(); join(4, 0); amountAt(0, 1)=1", partsOf(2, 1, 60),
            "amountAt(2, 59)=1; amountAt(2, 60)=-3");
        Edges.edge(20, "How much of part i", GREAT, "fill(0, 9, 1000000000); amountAt(0, 0)=1000000000");
        Edges.edge(20, "Reasons as at partAt.", FIVE, noVessels("amountAt(@, 0)"), "amountAt(0, 0)=-2",
            "amountAt(0, -1)=-2");
        Edges.edge(20, "Reasons as at partAt.", FIVE,
            "fill(0, 5, 1); amountAt(0, 1)=-3; amountAt(0, -1)=-3; amountAt(0, " + MIN + ")=-3; amountAt(0, " + MAX
                + ")=-3; wash(0); amountAt(0, 0)=-2; amountAt(4, -1)=-4; amountAt(5, -1)=-2");
    }

    private static void room() {
        Edges.edge(21, "How much a barrel takes yet: MOST, which is asked, less its amount.", FIVE, "room(0)=10000",
            "traced(1); fill(0, 5, 9999); room(0)=1; fill(0, 5, 1); room(0)=0; fill(3, 5, 90); room(3)=9700",
            "traced(3, 2); join(4, 3); join(4, 0); room(4)=9700; traced(4, 3, 2, 1); room(3)=9700; breathe(1)=20",
            "room(0)=20; room(4)=9720");
        Edges.edge(21, "How much a barrel takes yet", FIVE, "room(4)=0; traced(4); barrel(4, 1, 0); room(5)=0");
        Edges.edge(21, "b is looked up", FIVE, noBarrels("room(@)"), "traced()");
    }

    public static void main(String[] args) {
        fill();
        rack();
        topUp();
        pick();
        forget();
        blend();
        breathe();
        bottle();
        drain();
        wash();
        partAt();
        amountAt();
        room();
        Edges.end(9, 21);
    }
}
