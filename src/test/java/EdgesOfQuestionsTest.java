/** The edges of promises 27 to 48: questions. */
public final class EdgesOfQuestionsTest {
    private static final String FIVE = Edges.FIVE;
    private static final int MIN = Integer.MIN_VALUE;
    private static final int MAX = Integer.MAX_VALUE;
    private static final int[] NO_BARREL = {-1, 5, 999, 1000, MIN, MAX};

    /** Does each act that the journal has. The numbers of its barrels are no numbers of acts. */
    private static final String WRITTEN = "barrel(1, 10000, 0);" + Edges.times(1, 13, b -> "barrel(3, 10000, 0)")
        + "fill(0, 5, 5000); fill(10, 5, 100); rack(10, 11, 30); topUp(12, 10); pick(11, 20); pick(12, 19); blend(13);"
        + "breathe(3); bottle(12, 4, 43); drain(11, 6, 1); drain(11, 3, 2); wash(12); wash(1);";
    private static final long[][] ENTRIES = {
        {1, -1, 0, 5000}, {1, -1, 10, 100}, {2, 10, 11, 30}, {3, 10, 12, 70}, {4, 11, 13, 20}, {4, 12, 13, 19},
        {5, -1, -1, 28}, {6, 12, -1, 40}, {7, 11, -1, 6}, {8, 11, -1, 3}, {9, 12, -1, 11}, {9, 1, -1, 0}};

    private EdgesOfQuestionsTest() {
    }

    /** The question with each of these numbers in place of the @, all with one answer. */
    private static String all(String question, long answer, int... numbers) {
        StringBuilder all = new StringBuilder();
        for (int number : numbers) {
            all.append(question.replace("@", Integer.toString(number))).append("=").append(answer).append(";");
        }
        return all.toString();
    }

    private static void barrels() {
        Edges.edge(27, "The KIND of a barrel", FIVE, Edges.times(0, 4, b -> "kindOf(" + b + ")=" + (b + 1)));
        Edges.edge(27, "0 if there is none", FIVE, all("kindOf(@)", 0, NO_BARREL), "undo(); kindOf(4)=0; kindOf(3)=4");
        Edges.edge(28, "0 on the floor", FIVE, all("where(@)", 0, 0, 1, 2, 3, 4), "join(4, 0); leave(4); where(0)=0");
        Edges.edge(28, "1 + 100 * row + place", FIVE, "row(0, 0, 60); row(19, 0, 60); lay(0, 0, 0); where(0)=1",
            "lay(1, 0, 59); where(1)=60; lay(2, 19, 0); where(2)=1901; lay(3, 19, 59); where(3)=1960");
        Edges.edge(28, "10000 + its cask's number", "barrel(5, 0, 0); barrel(1, 9, 0); barrel(5, 0, 0)",
            "barrel(1, 9, 0); join(0, 1); join(2, 3); where(1)=10000; where(3)=10002; row(0, 0, 1); lay(0, 0, 0)",
            "where(1)=10000; where(0)=1");
        Edges.edge(28, "-1 if there is none", FIVE, all("where(@)", -1, NO_BARREL), "undo(); where(4)=-1");
        Edges.edge(29, "The number of what lies at a place", FIVE, "row(0, 0, 60); lay(4, 0, 59); lay(0, 0, 0)",
            "at(0, 59)=4; at(0, 0)=0");
        Edges.edge(29, "-1 if nothing does, or there is no such place", FIVE, "row(0, 0, 2); lay(0, 0, 0)",
            "at(0, 1)=-1; lift(0, 0); at(0, 0)=-1", all("at(0, @)", -1, -1, 2, 60, MIN, MAX),
            all("at(@, 0)", -1, -1, 1, 19, 20, MIN, MAX), "row(1, 0, 0); at(1, 0)=-1");
        Edges.edge(30, "How much a barrel has in all", FIVE, "amount(0)=0; fill(0, 5, 9); fill(0, 6, 1); amount(0)=10",
            "amount(4)=0; join(4, 0); join(4, 1); amount(4)=10; amount(0)=10; amount(1)=0");
        Edges.edge(30, "0 if there is none", FIVE, "fill(0, 5, 9)", all("amount(@)", 0, NO_BARREL));
        Edges.edge(31, "How much of a part a barrel has", FIVE, "fill(0, 0, 9); fill(2, 4095, 8); fill(3, 0, 7)",
            "part(0, 0)=9; part(2, 4095)=8; join(4, 0); join(4, 2); join(4, 3); part(4, 0)=16; part(4, 4095)=8",
            "part(4, 1)=0");
        Edges.edge(31, "0 if there is none", FIVE, "fill(0, 0, 9); fill(0, 4095, 9)",
            all("part(0, @)", 0, -1, 1, 4094, 4096, MIN, MAX), all("part(@, 0)", 0, NO_BARREL), "part(4, 0)=0",
            "drain(0, 18, 1); part(0, 0)=0");
        Edges.edge(32, "How many parts a vessel has, how many members a cask", FIVE, "parts(0)=0; parts(4)=0",
            "join(4, 1); join(4, 2); parts(4)=2", Edges.times(1, 60, i -> "fill(0, " + i + ", 1)"), "parts(0)=60",
            "parts(4)=2; join(4, 3); join(4, 0); parts(4)=4; leave(4); parts(4)=3");
        Edges.edge(32, "0 if there is none", FIVE, "fill(0, 5, 9)", all("parts(@)", 0, NO_BARREL));
    }

    private static void accounts() {
        String scene = FIVE + "fill(0, 0, 1000); fill(0, 4095, 1000); breathe(1); drain(0, 200, 1); drain(0, 100, 2);"
            + "bottle(0, 3, 90);";
        Edges.edge(33, "how 0 filled in, 1 breathed away, 2 tasted, 3 spilt, 4 in bottles", scene,
            "account(0, 0)=1000; account(0, 1)=2; account(0, 2)=100; account(0, 3)=50; account(0, 4)=45",
            "account(4095, 0)=1000; account(4095, 1)=2; account(4095, 2)=100; account(4095, 3)=50",
            "account(4095, 4)=45; wash(0)=1606; account(0, 3)=853; account(4095, 3)=853; undo()=1; account(0, 3)=50");
        Edges.edge(33, "0 for another how or part", scene, all("account(0, @)", 0, -1, 5, MIN, MAX),
            all("account(@, 0)", 0, -1, 1, 4094, 4096, MIN, MAX), all("account(@, 4)", 0, -1, 1, 4094, 4096, MIN, MAX));
        Edges.edge(33, "The account of a part", Edges.times(0, 7, b -> "barrel(3, 100000, 0)"),
            Edges.times(0, 479, i -> "fill(" + i / 60 + ", " + (4095 - 8 * i) + ", " + (i + 1) + ")"),
            "account(4095, 0)=1; account(263, 0)=480; account(2175, 0)=241; account(264, 0)=0; odd()=0; wash(7)=27030",
            "account(263, 3)=480; account(4095, 3)=0; odd()=0");
        Edges.edge(34, "For how many parts what was filled in is not what lies in barrels, breathed away, was tasted,"
                + " spilt and bottled together.", "odd()=0", scene, "odd()=0; rack(0, 2, 77); odd()=0; topUp(3, 0)",
            "odd()=0; join(4, 2); odd()=0; bottle(4, 5, 41); odd()=0; undo()=1; odd()=0; pick(3, 500); pick(4, 7)",
            "blend(1); odd()=0; undo()=1; odd()=0; wash(3); odd()=0; breathe(12); odd()=0");
        Edges.edge(35, "How many barrels are not in just one place", "strays()=0", FIVE, "strays()=0; row(0, 0, 3)",
            "lay(0, 0, 0); lay(4, 0, 2); strays()=0; join(4, 1); join(4, 2); strays()=0; lift(0, 0); strays()=0",
            "undo()=1; strays()=0; leave(4); strays()=0; undo()=1; strays()=0; leave(4); join(4, 3); strays()=0",
            "undo()=1; strays()=0; lay(2, 0, 1); strays()=0; undo()=1; strays()=0");
        Edges.edge(36, "How many months went by.", "month()=0; breathe(1); month()=1; breathe(12); month()=13",
            "breathe(13)=-1; month()=13; undo()=1; month()=1");
    }

    private static void lists() {
        String bottled = FIVE + "fill(2, 5, 100); fill(3, 5, 100); bottle(3, 7, 30); bottle(2, 1, 9);";
        Edges.edge(37, "How many bottlings there are.", "bottlings()=0", bottled, "bottlings()=2; bottle(2, 0, 1)=-5",
            "bottlings()=2; undo()=1; bottlings()=1");
        Edges.edge(37, "How many bottlings there are.", "barrel(3, 10000, 0); fill(0, 5, 9000)",
            Edges.times(1, 490, i -> "bottle(0, 1, " + (i % 19 + 1) + ")"), "bottlings()=490; bottling(489, 0)=490");
        Edges.edge(38, "what = 0 its number, 1 the barrel, 2 how many bottles, 3 the millilitres of each", bottled,
            "bottling(0, 0)=1; bottling(0, 1)=3; bottling(0, 2)=7; bottling(0, 3)=4; bottling(1, 0)=2",
            "bottling(1, 1)=2; bottling(1, 2)=1; bottling(1, 3)=9");
        Edges.edge(38, "-1 for another what, or if there is none", "bottling(0, 0)=-1", bottled,
            all("bottling(0, @)", -1, -1, 4, MIN, MAX), all("bottling(@, 0)", -1, -1, 2, MIN, MAX),
            all("bottling(@, 3)", -1, -1, 2, MIN, MAX), "undo()=1; bottling(1, 0)=-1; bottling(1, 3)=-1");
        journal();
    }

    private static String entries(int what) {
        return Edges.times(0, ENTRIES.length - 1, i -> "entry(" + i + ", " + what + ")=" + ENTRIES[i][what]);
    }

    private static void journal() {
        Edges.edge(39, "each fill, rack, topUp, bottle, drain, wash, breathe that was done is one, a blend one for"
                + " each that was picked, in order", "entries()=0", FIVE, "entries()=0; fill(2, 5, 100); entries()=1",
            "rack(2, 0, 30); entries()=2; topUp(3, 2); entries()=3; pick(0, 20); pick(3, 9); entries()=3; blend(1)",
            "entries()=5; breathe(3); entries()=6; bottle(3, 2, 5); entries()=7; drain(3, 7, 1); entries()=8",
            "drain(3, 8, 2); entries()=9; wash(3); entries()=10; wash(2); entries()=11; undo()=1; entries()=10");
        Edges.edge(39, "that was done", WRITTEN, "entries()=12; fill(0, 5, 0)=-1; rack(2, 0, 1)=-10; topUp(0, 2)=-10",
            "blend(0)=-10; breathe(0)=-1; bottle(2, 1, 1)=-10; drain(2, 1, 1)=-2; wash(14)=-2; entries()=12",
            "worth(0, 1); row(0, 0, 1); lay(0, 0, 0); lift(0, 0); barrel(5, 0, 0); join(14, 0); leave(14); pick(0, 1)",
            "forget(); entries()=12; undo()=1; entries()=12");
        Edges.edge(39, "How many entries the journal has", "barrel(3, 10000, 0)",
            Edges.times(1, 490, i -> "fill(0, 5, " + (i % 7 + 1) + ")"), "entries()=490; entry(489, 3)=1",
            "entry(488, 3)=7; entry(490, 0)=-1; wash(0)=1960; entries()=491");
        Edges.edge(40, "1 fill, 2 rack, 3 topUp, 4 blend, 5 breathe, 6 bottle, 7 tasted, 8 spilt, 9 wash", WRITTEN,
            entries(0));
        Edges.edge(40, "1 the barrel from which it went (-1 none: fill, breathe)", WRITTEN, entries(1));
        Edges.edge(40, "2 the vessel into which it came (-1 none)", WRITTEN, entries(2));
        Edges.edge(40, "3 how much", WRITTEN, entries(3));
        Edges.edge(40, "-1 for another what (2 answers -1, too), or if there is none", "entry(0, 0)=-1", WRITTEN,
            all("entry(0, @)", -1, -1, 4, MIN, MAX), all("entry(@, 0)", -1, -1, 12, MIN, MAX),
            all("entry(@, 3)", -1, -1, 12, MIN, MAX), "undo()=1; entry(11, 0)=-1; entry(11, 1)=-1; entry(10, 0)=9");
    }

    private static void acts() {
        Edges.edge(41, "How many acts there were, refused ones too.", "tries()=0; forget()=0; tries()=1; wash(0)=-2",
            "tries()=2; undo()=-14; tries()=3",
            "kindOf(0)=0; odd()=0; digest()=" + Edges.digestOf(0, 0, 0)
                + "; tries()=3; barrel(1, 1, 1); undo()=1; tries()=5");
        Edges.edge(42, "1 if the tap is closed, as it is at first, else 0", "closed()=1; wash(0)=-2; closed()=1",
            "forget()=0; closed()=1; undo()=-14; closed()=1");
        Edges.edge(43, "WHY of the latest act; 0 at first.", "why()=0; wash(0)=-2; why()=2; kindOf(0)=0; why()=2",
            "wash(1000)=-3; why()=3; forget()=0; why()=0; undo()=-14; why()=14; label()=0; why()=0");
        Edges.edge(44, "WHICH of the latest judge.", FIVE, "which()=-1; fill(0, 5, 9); label(); rule(0, 5, 3, 5, 0)",
            "judge(0, 0)=0; which()=0; wash(9)=-2; which()=0; pick(0, 1); plan(0, 5, 5)=-14; which()=0; label()",
            "plan(1, 5, 5)=-14; which()=0; undo()=1; which()=0; judge(0, 0)=1; which()=-1");
        Edges.edge(45, "Body i, from 0, of the TRACE of the latest act", FIVE, "room(3)=9790; trace(0)=3; trace(1)=2",
            "kindOf(0)=1; trace(0)=3; room(0)=10000; trace(0)=1; trace(1)=0; forget()=0; trace(0)=0");
        Edges.edge(45, "0 if there is none", "trace(0)=0", FIVE, "room(3)=9790",
            all("trace(@)", 0, -1, 2, 199, 200, 201, MIN, MAX));
        Edges.edge(46, "How many barrels are picked.", Edges.times(0, 8, b -> "barrel(3, 9, 0)"), "picked()=0",
            "pick(9, 1)=-2; picked()=0", Edges.times(0, 7, b -> "pick(" + b + ", 1)"), "picked()=8; pick(8, 1)=-12",
            "picked()=8; forget()=8; picked()=0; pick(0, 1); undo()=1; picked()=0");
        String planned = FIVE + "fill(2, 5, 100); fill(3, 6, 100); fill(0, 7, 100); label(); pick(2, 1); pick(3, 1);"
            + "pick(0, 1);";
        Edges.edge(47, "The amount that was planned, at the latest plan that was done", planned, "planned(0)=0",
            "plan(0, 300, 100)=-14; planned(0)=0; plan(0, 250, 50)=75000; planned(0)=100; planned(1)=100",
            "planned(2)=50; plan(0, 250, 0)=-5; plan(0, 180, 90)=36000; planned(0)=90; planned(1)=0; planned(2)=90");
        Edges.edge(47, "at the latest plan that was done", planned, "plan(0, 270, 90)=72000; planned(0)=90",
            "planned(1)=90; planned(2)=90; plan(0, 300, 100)=-14; planned(0)=90; forget()=3; planned(1)=90; undo()=1",
            "planned(2)=90; pick(2, 1); plan(0, 7, 7)=2100; planned(0)=7; planned(1)=0; planned(2)=0");
        Edges.edge(47, "0 if there is none", planned, "plan(0, 270, 90)=72000",
            all("planned(@)", 0, -1, 3, 5, 6, 7, 8, MIN, MAX));
    }

    private static void digest() {
        Edges.edge(48, "how many barrels there are", "digest()=" + Edges.digestOf(0, 0, 0),
            "barrel(1, 7, 9); digest()=" + Edges.digestOf(1, 1, 7, 9, 0, 0, 0, 0));
        Edges.edge(48, "KIND, SIZE (a cask's 0), CENTS, where(), how many parts or members", "barrel(4, 50, 3)",
            "barrel(5, 77, 4); row(2, 5, 9); lay(1, 2, 8)",
            "digest()=" + Edges.digestOf(2, 4, 50, 3, 0, 0, 5, 0, 4, 209, 0, 0, 0),
            "join(1, 0); digest()=" + Edges.digestOf(2, 4, 50, 3, 10001, 0, 5, 0, 4, 209, 1, 0, 0, 0),
            "worth(1, 6); digest()=" + Edges.digestOf(2, 4, 50, 3, 10001, 0, 5, 0, 6, 209, 1, 0, 0, 0));
        Edges.edge(48, "of a vessel then each part and its amount, of a cask each member's number", FIVE,
            "fill(0, 9, 7); fill(0, 2, 8); join(4, 3); join(4, 0)",
            "digest()="
                + Edges.digestOf(5, 1, 10000, 100, 10004, 2, 2, 8, 9, 7, 2, 10000, 200, 0, 0, 3, 10000, 300, 0, 0,
                    4, 10000, 400, 10004, 0, 5, 0, 500, 0, 2, 3, 0, 0, 2));
        Edges.edge(48, "then how many months went by; then how many entries the journal has",
            "breathe(12); breathe(1); digest()=" + Edges.digestOf(0, 13, 2),
            "undo(); digest()=" + Edges.digestOf(0, 12, 1));
        Edges.edge(48, "wrapping",
            Edges.times(0, 2, b -> "barrel(1, 1000000000, 1000000); fill(" + b + ", 4095, 1000000000)"),
            "digest()="
                + Edges.digestOf(3, 1, 1000000000, 1000000, 0, 1, 4095, 1000000000, 1, 1000000000, 1000000, 0, 1,
                    4095, 1000000000, 1, 1000000000, 1000000, 0, 1, 4095, 1000000000, 0, 3));
    }

    public static void main(String[] args) {
        barrels();
        accounts();
        lists();
        acts();
        digest();
        Edges.end(27, 48);
    }
}
