/** The edges that stand under "Terms". */
public final class EdgesOfTermsTest {
    private static final String FIVE = Edges.FIVE;

    private EdgesOfTermsTest() {
    }

    private static void edge(String words, String... runs) {
        Edges.edge(0, words, runs);
    }

    private static String four(int kind, int size) {
        return Edges.times(1, 4, b -> "barrel(" + kind + ", " + size + ", 0)");
    }

    private static void numbers() {
        edge("A PART is 256 * harvest + 16 * vineyard + grape, each 0 .. 15.", FIVE, "label(); rule(0, 3, 1, 15, 0)",
            "rule(0, 3, 2, 0, 0); rule(0, 3, 3, 0, 0); label(); rule(1, 3, 1, 0, 0); rule(1, 3, 2, 15, 0)",
            "rule(1, 3, 3, 0, 0); label(); rule(2, 3, 1, 0, 0); rule(2, 3, 2, 0, 0); rule(2, 3, 3, 15, 0)",
            "fill(0, 3840, 1); judge(0, 0)=1; judge(0, 1)=0; judge(0, 2)=0; fill(1, 240, 1); judge(1, 1)=1",
            "judge(1, 0)=0; fill(2, 15, 1); judge(2, 2)=1; judge(2, 1)=0");
        edge("each 0 .. 15", FIVE, "fill(0, 0, 1)=1; fill(0, 4095, 1)=2; fill(0, -1, 1)=-1; fill(0, 4096, 1)=-1",
            "label(); rule(0, 1, 1, 0, 50)=1; rule(0, 1, 2, 0, 50)=2; rule(0, 1, 3, 0, 50)=3; rule(0, 1, 1, 15, 50)=4",
            "rule(0, 1, 2, 15, 50)=5; rule(0, 1, 3, 15, 50)=6; judge(0, 0)=1");
        edge("Amounts are whole millilitres, longs; / is cut.", "barrel(3, 49, 0); barrel(3, 50, 0); barrel(3, 99, 0)",
            "barrel(3, 100, 0); barrel(3, 1, 0); room(0)=49; room(1)=49; room(2)=98; room(3)=98; room(4)=1");
        edge("longs", "barrel(5, 0, 0)", four(1, 1000000000), Edges.times(1, 4, b -> "fill(" + b + ", 5, 1000000000)"),
            Edges.times(1, 4, b -> "join(0, " + b + ")"), "amount(0)=4000000000; part(0, 5)=4000000000",
            "account(5, 0)=4000000000; room(0)=0");
    }

    private static void barrels() {
        edge("BARRELS have numbers, from 0, in the order in which they were made", "barrel(3, 7, 1)=0",
            "barrel(5, 0, 2)=1; barrel(1, 7, 3)=2; kindOf(0)=3; kindOf(1)=5; kindOf(2)=1");
        Edges.longEdge(0, "at most 1000", Edges.times(0, 999, b -> "barrel(3, 9, 0)"), "barrel(5, 0, 0)=-12",
            "kindOf(999)=3; kindOf(1000)=0; wash(999)=0; wash(1000)=-3");
        edge("2 NEW, which is an OAK, too", FIVE, "row(0, 1, 2); lay(1, 0, 0)=1; lay(0, 0, 1)=0");
        edge("4 GLASS, which is a STEEL, too", FIVE, "row(0, 3, 2); lay(3, 0, 0)=3; lay(2, 0, 1)=2");
        edge("All but CASKS are VESSELS.", FIVE, "wash(0)=0; wash(1)=0; wash(2)=0; wash(3)=0; wash(4)=-4; leave(0)=-4",
            "leave(3)=-4; leave(4)=-3");
        edge("an amount, 1 or more, of each of its parts", FIVE, "fill(2, 8, 1); fill(2, 9, 9); parts(2)=2",
            "drain(2, 1, 1)=9; parts(2)=1; part(2, 8)=0; partAt(2, 0)=9; amountAt(2, 0)=9; partAt(2, 1)=-3");
        edge("of at most 60", FIVE, Edges.times(0, 59, i -> "fill(0, " + i + ", 1)"), "parts(0)=60",
            "fill(0, 60, 1)=-12; fill(0, 59, 1)=61; parts(0)=60");
        edge("by rising parts", FIVE, "fill(0, 9, 1); fill(0, 4095, 2); fill(0, 0, 3); fill(0, 10, 4); partAt(0, 0)=0",
            "partAt(0, 1)=9; partAt(0, 2)=10; partAt(0, 3)=4095; amountAt(0, 2)=4");
        edge("without wine it is EMPTY", FIVE, "partAt(2, 0)=-2; drain(2, 1, 1)=-2; fill(2, 7, 10); drain(2, 10, 1)=0",
            "drain(2, 1, 1)=-2; fill(2, 7, 10); wash(2)=10; partAt(2, 0)=-2; fill(2, 7, 10); rack(2, 0, 10)=10",
            "amountAt(2, 0)=-2; fill(2, 7, 10); bottle(2, 1, 10)=1; drain(2, 1, 2)=-2");
        edge("A CASK has MEMBERS, vessels, at most 4, in the order in which they joined", FIVE, "barrel(3, 9, 0)",
            "join(4, 4)=-4; join(4, 3)=1; join(4, 0)=2; join(4, 2)=3; join(4, 1)=4; join(4, 5)=-12; leave(4)=1",
            "leave(4)=2; leave(4)=0; leave(4)=3; leave(4)=-3");
        edge("its wine is theirs together", FIVE, "amount(4)=0; fill(0, 5, 3); fill(0, 6, 2); fill(2, 5, 4)",
            "join(4, 0); join(4, 2); amount(4)=9; part(4, 5)=7; part(4, 6)=2; leave(4)=2; amount(4)=5");
        edge("It is on the floor when it is made.", FIVE, "where(0)=0; where(1)=0; where(2)=0; where(3)=0; where(4)=0",
            "where(5)=-1");
    }

    private static void rows() {
        edge("ROWS, 0 .. 19, none built at first.", Edges.times(0, 19, r -> "lift(" + r + ", 0)=-6"), "lift(-1, 0)=-3",
            "lift(20, 0)=-3", Edges.times(0, 19, r -> "row(" + r + ", 0, 1)=1"), "row(20, 0, 1)=-3");
        edge("0 all barrels", FIVE, "row(0, 0, 5)", Edges.times(0, 4, b -> "lay(" + b + ", 0, " + b + ")=" + b));
        edge("1 OAK and NEW", FIVE, "row(0, 1, 5); lay(2, 0, 2)=-4; lay(3, 0, 3)=-4; lay(4, 0, 4)=-4; lay(0, 0, 0)=0",
            "lay(1, 0, 1)=1");
        edge("2 NEW", FIVE, "row(0, 2, 5); lay(0, 0, 0)=-4; lay(2, 0, 2)=-4; lay(3, 0, 3)=-4; lay(4, 0, 4)=-4",
            "lay(1, 0, 1)=1");
        edge("3 STEEL and GLASS", FIVE, "row(0, 3, 5); lay(0, 0, 0)=-4; lay(1, 0, 1)=-4; lay(4, 0, 4)=-4",
            "lay(2, 0, 2)=2; lay(3, 0, 3)=3");
        edge("4 GLASS", FIVE, "row(0, 4, 5); lay(0, 0, 0)=-4; lay(1, 0, 1)=-4; lay(2, 0, 2)=-4; lay(4, 0, 4)=-4",
            "lay(3, 0, 3)=3");
        edge("5 CASK", FIVE, "row(0, 5, 5); lay(0, 0, 0)=-4; lay(1, 0, 1)=-4; lay(2, 0, 2)=-4; lay(3, 0, 3)=-4",
            "lay(4, 0, 4)=4");
        edge("6 all vessels", FIVE, "row(0, 6, 5); lay(4, 0, 4)=-4",
            Edges.times(0, 3, b -> "lay(" + b + ", 0, " + b + ")=" + b));
        edge("Its PLACES are numbered from 0; each holds one barrel or none.", FIVE, "row(0, 0, 2); at(0, 0)=-1",
            "lay(0, 0, 0)=0; lay(1, 0, 0)=-8; lay(1, 0, 1)=1; lay(2, 0, 2)=-3; at(0, 0)=0; at(0, 1)=1; lift(0, 0)=0",
            "at(0, 0)=-1; lay(2, 0, 0)=2; at(0, 0)=2");
    }

    private static void most() {
        edge("1 (OAK, NEW): its size.", FIVE, "fill(0, 5, 10001)=-11; fill(0, 5, 10000)=10000; fill(0, 5, 1)=-11",
            "traced(1); fill(1, 5, 10001)=-11; fill(1, 5, 10000)=10000; room(1)=0; traced(1); barrel(1, 1, 0)",
            "fill(5, 5, 1)=1; fill(5, 5, 1)=-11; barrel(2, 1000000000, 0); fill(6, 5, 1000000000)=1000000000",
            "fill(6, 5, 1)=-11");
        edge("2 (STEEL): its size less size / 50.", FIVE, "fill(2, 5, 9801)=-11; traced(2); fill(2, 5, 9800)=9800",
            "fill(2, 5, 1)=-11; room(2)=0; barrel(3, 1000000000, 0); room(5)=980000000; fill(5, 5, 980000001)=-11",
            "fill(5, 5, 980000000)=980000000");
        edge("3 (GLASS), behind it 2 runs: what that says less 10, at least 0.", "barrel(4, 10, 0); barrel(4, 11, 0)",
            "barrel(4, 9, 0); barrel(4, 1, 0); barrel(4, 50, 0); room(0)=0; traced(3, 2); room(1)=1; room(2)=0",
            "room(3)=0; room(4)=39; fill(0, 5, 1)=-11; fill(3, 5, 1)=-11; fill(1, 5, 1)=1; fill(1, 5, 1)=-11",
            "fill(4, 5, 39)=39; fill(4, 5, 1)=-11; traced(3, 2)");
        edge("4 (CASK), behind it MOST of its members, in order: their sum.", FIVE, "room(4)=0; traced(4)",
            "barrel(4, 1, 0); join(4, 5); join(4, 2); join(4, 1); room(4)=19800; traced(4, 3, 2, 2, 1)");
        edge("their sum", "barrel(5, 0, 0)", four(2, 1000000000), Edges.times(1, 4, b -> "join(0, " + b + ")"),
            "room(0)=4000000000; traced(4, 1, 1, 1, 1)");
    }

    private static void spare() {
        edge("5 (OAK): its amount less size / 1000, at least 0.", FIVE, "rack(0, 2, 1)=-10; traced(5); fill(0, 5, 10)",
            "rack(0, 2, 1)=-10; fill(0, 5, 1); rack(0, 2, 2)=-10; rack(0, 2, 1)=1; traced(5, 2); amount(0)=10");
        edge("its amount less size / 1000", "barrel(1, 999, 0); barrel(1, 1000, 0); barrel(1, 1999, 0)",
            "barrel(1, 2000, 0); barrel(3, 900, 0); fill(0, 5, 2); fill(1, 5, 2); fill(2, 5, 2); fill(3, 5, 2)",
            "rack(0, 4, 2)=2; rack(1, 4, 2)=-10; rack(1, 4, 1)=3; rack(2, 4, 2)=-10; rack(2, 4, 1)=4",
            "rack(3, 4, 1)=-10");
        edge("its amount less size / 1000, at least 0.", FIVE, "fill(0, 5, 4); fill(2, 6, 100); join(4, 0)",
            "join(4, 2); rack(4, 3, 101)=-10; traced(8, 5, 7); rack(4, 3, 100)=100; part(3, 5)=0; amount(0)=4");
        edge("6 (NEW), behind it 5 runs: what that says less size / 2000, at least 0.", FIVE, "fill(1, 5, 12)",
            "rack(1, 2, 1)=-10; traced(6, 5); fill(1, 5, 3); rack(1, 2, 1)=-10; fill(1, 5, 1); rack(1, 2, 2)=-10",
            "rack(1, 2, 1)=1; traced(6, 5, 2); amount(1)=15");
        edge("what that says less size / 2000", "barrel(2, 1999, 0); barrel(2, 2000, 0); barrel(3, 900, 0)",
            "fill(0, 5, 4); fill(1, 5, 4); rack(0, 2, 4)=-10; rack(0, 2, 3)=3; rack(1, 2, 2)=-10; rack(1, 2, 1)=4");
        edge("what that says less size / 2000, at least 0.", FIVE, "fill(1, 5, 4); fill(2, 6, 100); join(4, 1)",
            "join(4, 2); rack(4, 3, 101)=-10; traced(8, 6, 5, 7); rack(4, 3, 100)=100; amount(1)=4");
        edge("what that says less size / 2000, at least 0.", FIVE, "fill(1, 5, 12); fill(2, 6, 100); join(4, 1)",
            "join(4, 2); topUp(3, 4)=100; traced(3, 2, 8, 6, 5, 7, 6, 5, 7); amount(1)=12; amount(2)=0");
        edge("7 (STEEL, GLASS): its amount.", FIVE, "fill(2, 5, 7); fill(3, 6, 7); rack(2, 0, 8)=-10; traced(7)",
            "rack(2, 0, 7)=7; rack(3, 0, 8)=-10; traced(7); rack(3, 0, 7)=14; amount(2)=0; amount(3)=0");
        edge("8 (CASK), behind it SPARE of its members, in order: their sum.", FIVE, "rack(4, 2, 1)=-10; traced(8)",
            "bottle(4, 1, 1)=-10; traced(8); fill(2, 5, 3); join(4, 1); join(4, 3); join(4, 0); topUp(2, 4)=-10",
            "traced(2, 8, 6, 5, 7, 5)");
        edge("their sum", "barrel(5, 0, 0)", four(1, 1000000000),
            Edges.times(1, 4, b -> "fill(" + b + ", 5, 1000000000)"), Edges.times(1, 4, b -> "join(0, " + b + ")"),
            "barrel(2, 1000000000, 0); rack(0, 5, 1000000000)=1000000000; traced(8, 5, 5, 5, 5, 1, 5, 5)",
            "amount(1)=1000000; amount(2)=999000000; amount(3)=1000000000");
    }

    private static void rateAndDear() {
        edge("9 (STEEL, CASK): 0.", FIVE, "fill(2, 5, 9800); join(4, 2); breathe(12)=0; traced(10, 11, 10, 9, 12, 9)",
            "amount(2)=9800; amount(4)=9800; barrel(3, 1000000000, 0); fill(5, 5, 980000000); breathe(12)=0",
            "amount(5)=980000000");
        edge("10 (OAK): 20.", FIVE, "fill(0, 5, 499); breathe(1)=0; fill(0, 5, 1); breathe(1)=1; amount(0)=499",
            "barrel(1, 1000000000, 0); fill(5, 5, 1000000000); breathe(1)=2000000");
        edge("11 (NEW), behind it 10 runs: what that says and 15.", FIVE, "fill(1, 5, 285); breathe(1)=0",
            "fill(1, 5, 1); breathe(1)=1; amount(1)=285; barrel(2, 1000000000, 0); fill(5, 5, 1000000000)",
            "breathe(1)=3500000; traced(10, 11, 10, 9, 12, 9, 11, 10)");
        edge("12 (GLASS): 1.", "barrel(4, 20000, 0); fill(0, 5, 9999); breathe(12)=0; fill(0, 5, 1); breathe(1)=1",
            "traced(12); amount(0)=9999; barrel(4, 1000000000, 0); fill(1, 5, 979999990); breathe(1)=97999");
        edge("13 (OAK, STEEL, GLASS): CENTS times it.", FIVE, "fill(0, 5, 20); fill(2, 5, 20); fill(3, 5, 20)",
            "label(); pick(0, 1); plan(0, 9, 9)=900; traced(5, 13); forget(); pick(2, 1); plan(0, 9, 9)=2700",
            "traced(7, 13); forget(); pick(3, 1); plan(0, 9, 9)=3600; traced(7, 13); worth(3, 0); plan(0, 9, 9)=0",
            "planned(0)=9");
        edge("CENTS times it", "barrel(1, 1000000000, 1000000); fill(0, 5, 1000000000); label(); pick(0, 1)",
            "plan(0, 999000000, 999000000)=999000000000000; plan(0, 1000000000, 1000000000)=-14");
        edge("14 (NEW): y and y / 10, y being CENTS times it.", "barrel(2, 1000, 1); fill(0, 5, 100); label()",
            "pick(0, 1); plan(0, 9, 9)=9; traced(6, 5, 14); plan(0, 10, 10)=11; plan(0, 19, 19)=20; worth(0, 3)",
            "plan(0, 3, 3)=9; plan(0, 4, 4)=13; plan(0, 9, 3)=29; plan(0, 12, 12)=39");
        edge("14 (NEW)", "barrel(2, 1000000000, 1000000); fill(0, 5, 1000000000); label(); pick(0, 1)",
            "plan(0, 900000000, 900000000)=990000000000000");
        edge("15 (CASK): 2 times CENTS times it.", FIVE, "fill(2, 5, 50); join(4, 2); worth(4, 1); label()",
            "pick(4, 1); plan(0, 7, 7)=14; traced(8, 7, 15); worth(4, 0); plan(0, 7, 7)=0; worth(4, 1000000)",
            "plan(0, 50, 50)=100000000");
        edge("2 times CENTS times it", "barrel(5, 0, 1000000)", four(1, 1000000000),
            Edges.times(1, 4, b -> "fill(" + b + ", 5, 1000000000); join(0, " + b + ")"), "label(); pick(0, 1)",
            "plan(0, 1000000000, 1000000000)=2000000000000000; planned(0)=1000000000");
    }

    private static void shares() {
        edge("An amount x, at most what it has in all", FIVE, "fill(2, 5, 3); fill(2, 6, 4); drain(2, 8, 1)=-10",
            "drain(2, 7, 1)=0; account(5, 2)=3; account(6, 2)=4; parts(2)=0");
        edge("of a part of which it has p, x * p / T goes", FIVE, "fill(2, 5, 300); fill(2, 6, 700)",
            "drain(2, 10, 2)=990; account(5, 3)=3; account(6, 3)=7; part(2, 5)=297; part(2, 6)=693");
        edge("x * p / T goes", "barrel(1, 1000000000, 0); fill(0, 5, 600000000); fill(0, 6, 400000000)",
            "drain(0, 500000001, 1)=499999999; account(5, 2)=300000001; account(6, 2)=200000000");
        edge("has a rest by T", "barrel(1, 1000000000, 0); fill(0, 5, 500000000); fill(0, 6, 333333333)",
            "fill(0, 7, 166666667); drain(0, 20, 1)=999999980; account(5, 2)=10; account(6, 2)=7; account(7, 2)=3");
        edge("what is then wanting to x goes 1 by 1", FIVE, "fill(2, 5, 1); fill(2, 6, 1); fill(2, 7, 1)",
            "fill(2, 8, 1); drain(2, 3, 1)=1; account(5, 2)=1; account(6, 2)=1; account(7, 2)=1; account(8, 2)=0");
        edge("from the parts whose x * p has a rest by T", FIVE, "fill(2, 5, 5); fill(2, 6, 2); fill(2, 7, 3)",
            "drain(2, 2, 1)=8; account(5, 2)=1; account(6, 2)=1; account(7, 2)=0");
        edge("each once", FIVE, "fill(2, 7, 10); fill(2, 6, 10); fill(2, 5, 10); drain(2, 20, 1)=10; account(5, 2)=7",
            "account(6, 2)=7; account(7, 2)=6");
        edge("by rising parts", FIVE, "fill(2, 9, 50); fill(2, 5, 1); fill(2, 7, 1); fill(2, 6, 48)",
            "drain(2, 3, 1)=97; account(5, 2)=1; account(6, 2)=1; account(7, 2)=0; account(9, 2)=1; undo()",
            "drain(2, 4, 1)=96; account(5, 2)=1; account(6, 2)=1; account(7, 2)=0; account(9, 2)=2");
        edge("Parts of which nothing is left are no parts of it any more.", FIVE, "fill(2, 5, 1); fill(2, 6, 9)",
            "rack(2, 0, 1)=1; parts(2)=1; part(2, 5)=0; part(0, 5)=1; parts(0)=1; part(0, 6)=0; partAt(2, 0)=6");
    }

    private static void sharesOfCasks() {
        String scene = FIVE + "; fill(0, 5, 30); fill(1, 6, 35); fill(2, 7, 20); join(4, 0); join(4, 1); join(4, 2);";
        edge("DRAWN from a cask: from its members in order", scene, "rack(4, 3, 1)=1; part(3, 5)=1",
            "traced(8, 5, 6, 5, 7, 3, 2, 5)");
        edge("from each as much as is wanting yet, at most its SPARE", scene, "rack(4, 3, 41)=41; part(3, 5)=20",
            "part(3, 6)=20; part(3, 7)=1; amount(0)=10; amount(1)=15; amount(2)=19",
            "traced(8, 5, 6, 5, 7, 3, 2, 5, 6, 5, 7)");
        edge("(these are asked again for that, in order, up to the one that gives the last)", scene,
            "rack(4, 3, 20)=20; traced(8, 5, 6, 5, 7, 3, 2, 5); rack(4, 3, 20)=40; part(3, 6)=20",
            "traced(8, 5, 6, 5, 7, 3, 2, 5, 6, 5); rack(4, 3, 20)=60; traced(8, 5, 6, 5, 7, 3, 2, 5, 6, 5, 7)",
            "rack(4, 3, 1)=-10; traced(8, 5, 6, 5, 7)");
        edge("these are asked again for that", scene, "bottle(4, 2, 43)=1; traced(8, 5, 6, 5, 7, 5, 6, 5, 7)",
            "account(5, 4)=20; account(6, 4)=20; account(7, 4)=2; bottle(4, 1, 18)=2; bottle(4, 1, 1)=-10");
        edge("up to the one that gives the last", scene, "bottle(4, 3, 22)=1; traced(8, 5, 6, 5, 7, 5, 6, 5)",
            "account(5, 4)=20; account(6, 4)=1; undo()=1; bottle(4, 3, 20)=2; traced(8, 5, 6, 5, 7, 5)",
            "account(5, 4)=18");
    }

    private static void labels() {
        edge("LABELS have numbers, from 0, at most 40", Edges.times(0, 39, l -> "label()=" + l), "label()=-12");
        edge("RULES, at most 20 made for each, numbered from 0", FIVE, "fill(0, 5, 1); label(); label()",
            Edges.times(1, 19, n -> "rule(0, 4, 3, 5, 0)=" + n), "rule(0, 5, 3, 5, 0)=20; rule(0, 4, 3, 5, 0)=-12",
            "rule(0, 6, 0, 0, 0)=-12; judge(0, 0)=0; which()=19; rule(1, 5, 3, 5, 0)=1; judge(0, 1)=0; which()=0");
        edge("a label HOLDS for wine if each of its rules does", FIVE, "fill(0, 5, 1); label(); judge(0, 0)=1",
            "judge(1, 0)=1; rule(0, 4, 3, 5, 0); rule(0, 3, 3, 5, 0); judge(0, 0)=1; which()=-1; rule(0, 5, 3, 5, 0)",
            "judge(0, 0)=0; rule(0, 4, 3, 5, 0); judge(0, 0)=0; which()=2");
        edge("WHICH is the first that does not", FIVE, "fill(0, 5, 1); label(); rule(0, 4, 3, 5, 0)",
            "rule(0, 4, 3, 6, 0); rule(0, 4, 3, 7, 0); judge(0, 0)=0; which()=1");
        edge("they are asked in order, up to that one", FIVE, "label(); rule(0, 4, 3, 5, 0); rule(0, 1, 3, 5, 0)",
            "judge(0, 0)=0; which()=0; label(); rule(1, 1, 3, 5, 0); rule(1, 4, 3, 5, 0); judge(0, 1)=-5; which()=0");
        edge("op 1: S * 100 / T is at least h.", FIVE, "fill(0, 5, 999); fill(0, 6, 1); label(); rule(0, 1, 3, 5, 99)",
            "label(); rule(1, 1, 3, 5, 100); label(); rule(2, 1, 3, 6, 0); label(); rule(3, 1, 3, 6, 1)",
            "judge(0, 0)=1; judge(0, 1)=0; judge(0, 2)=1; judge(0, 3)=0; fill(1, 5, 1); judge(1, 1)=1; judge(1, 2)=1",
            "fill(2, 5, 99); fill(2, 6, 1); judge(2, 3)=1; judge(2, 0)=1; judge(2, 1)=0");
        edge("2: (S * 100 + T - 1) / T is at most h.", FIVE, "fill(0, 5, 999); fill(0, 6, 1); label()",
            "rule(0, 2, 3, 6, 0); label(); rule(1, 2, 3, 6, 1); label(); rule(2, 2, 3, 5, 99); label()",
            "rule(3, 2, 3, 5, 100); judge(0, 0)=0; judge(0, 1)=1; judge(0, 2)=0; judge(0, 3)=1; fill(1, 5, 99)",
            "fill(1, 7, 1); judge(1, 0)=1; judge(1, 2)=1; fill(2, 6, 1); judge(2, 1)=0");
        edge("(S * 100 + T - 1) / T", FIVE, "fill(0, 5, 1); fill(0, 6, 2); label(); rule(0, 2, 3, 5, 33); label()",
            "rule(1, 2, 3, 5, 34); judge(0, 0)=0; judge(0, 1)=1; fill(1, 5, 1); fill(1, 6, 3); label()",
            "rule(2, 2, 3, 5, 24); label(); rule(3, 2, 3, 5, 25); judge(1, 2)=0; judge(1, 3)=1");
        edge("S * 100", "barrel(5, 0, 0)", four(1, 1000000000),
            Edges.times(1, 4, b -> "fill(" + b + ", " + (b == 4 ? 6 : 5) + ", 1000000000); join(0, " + b + ")"),
            "label(); rule(0, 1, 3, 5, 75); rule(0, 2, 3, 5, 75); rule(0, 1, 3, 6, 25); rule(0, 2, 3, 6, 25)",
            "judge(0, 0)=1; rule(0, 1, 3, 5, 76); judge(0, 0)=0; which()=4; label(); rule(1, 2, 3, 5, 74)",
            "judge(0, 1)=0");
        edge("3 ONLY: S is T.", FIVE, "fill(0, 5, 9999); label(); rule(0, 3, 3, 5, 0); judge(0, 0)=1; fill(0, 6, 1)",
            "judge(0, 0)=0; judge(1, 0)=1; which()=-1");
        edge("4 WITH: S is above 0.", FIVE, "fill(0, 6, 9999); label(); rule(0, 4, 3, 5, 0); judge(0, 0)=0",
            "fill(0, 5, 1); judge(0, 0)=1; judge(1, 0)=0; which()=0");
        edge("5 WITHOUT: S is 0.", FIVE, "fill(0, 6, 9999); label(); rule(0, 5, 3, 5, 0); judge(0, 0)=1",
            "fill(0, 5, 1); judge(0, 0)=0; judge(1, 0)=1; which()=-1");
    }

    private static void labelsOfTwo() {
        edge("6 EITHER: the first of two rules holds, or else the second does", FIVE, "fill(0, 5, 1); fill(1, 6, 1)",
            "fill(2, 7, 1); label(); rule(0, 4, 3, 5, 0); rule(0, 4, 3, 6, 0); rule(0, 6, 0, 0, 0)=1; judge(0, 0)=1",
            "judge(1, 0)=1; judge(2, 0)=0; which()=0; judge(3, 0)=0");
        edge("(this is not asked if the first holds)", FIVE, "label(); rule(0, 5, 3, 5, 0); rule(0, 1, 3, 5, 0)",
            "rule(0, 6, 0, 0, 0); judge(0, 0)=1; which()=-1; label(); rule(1, 4, 3, 5, 0); rule(1, 1, 3, 5, 0)",
            "rule(1, 6, 0, 0, 0); judge(0, 1)=-5; which()=0");
        edge("Sharing by T = 0 is reason 5: then the label does not hold", FIVE, "label(); rule(0, 1, 3, 5, 0)",
            "label(); rule(1, 2, 3, 5, 100); judge(0, 0)=-5; judge(0, 1)=-5; judge(4, 0)=-5; judge(4, 1)=-5",
            "join(4, 2); judge(4, 0)=-5; which()=0; fill(0, 6, 1); judge(0, 0)=1; judge(0, 1)=1");
        edge("then the label does not hold", FIVE, "label(); rule(0, 1, 3, 5, 0); rule(0, 5, 3, 5, 0)",
            "rule(0, 6, 0, 0, 0); judge(0, 0)=-5; which()=0");
        edge("WHICH is the rule, as the label has it, in which that was", FIVE, "label(); rule(0, 5, 3, 5, 0)",
            "rule(0, 3, 3, 5, 0); rule(0, 4, 3, 5, 0); rule(0, 4, 3, 6, 0); rule(0, 2, 3, 5, 0)",
            "rule(0, 6, 0, 0, 0)=4; rule(0, 6, 0, 0, 0)=3; judge(0, 0)=-5; which()=2");
    }

    private static void acts() {
        String scene = FIVE + "; fill(2, 5, 100); label();";
        edge("Each act opens the tap, is a TRY, and closes the tap, however it ends.", "closed()=1; tries()=0", scene,
            "tries()=7; row(0, 0, 1)=1; row(0, 0, 1)=-8; barrel(1, 1, 1)=5; barrel(0, 1, 1)=-1; join(4, 0)=1",
            "join(4, 0)=-9; leave(4)=0; leave(4)=-3; lay(0, 0, 0)=0; lay(0, 0, 0)=-9; lift(0, 0)=0; lift(0, 0)=-2",
            "worth(0, 1)=100; worth(0, -1)=-1; fill(0, 5, 100)=100; fill(0, 5, 0)=-1; rack(0, 1, 20)=20",
            "rack(0, 0, 1)=-13; topUp(1, 0)=70; topUp(1, 0)=-10; pick(2, 5)=1; pick(2, 5)=-13; blend(2)=-13",
            "blend(0)=5; forget()=0; tries()=32; closed()=1");
        edge("is a TRY", scene, "breathe(1)=0; breathe(0)=-1; bottle(2, 2, 10)=1; bottle(2, 0, 10)=-5",
            "drain(2, 5, 1)=85; drain(2, 86, 1)=-10; wash(2)=85; wash(4)=-4; partAt(2, 0)=-2; fill(2, 5, 9)",
            "partAt(2, 0)=5; amountAt(2, 0)=9; amountAt(2, 1)=-3; room(2)=9791; room(9)=-2; label()=1",
            "rule(0, 4, 3, 5, 0)=1; rule(0, 7, 3, 5, 0)=-1; judge(2, 0)=1; judge(2, 2)=-2; pick(2, 1)",
            "plan(0, 6, 2)=1800; plan(0, 6, 0)=-5; undo()=1; undo()=-14; tries()=32");
        edge("A refused act answers less than 0: WHY with a minus", FIVE, "why()=0; fill(0, 4096, 1)=-1; why()=1",
            "fill(9, 5, 1)=-2; why()=2; fill(1000, 5, 1)=-3; why()=3; fill(4, 5, 1)=-4; why()=4; lift(0, 0)=-6",
            "why()=6; row(0, 0, -1)=-7; why()=7; leave(4)=-3; rack(0, 0, 1)=-13; why()=13; forget()=0; why()=0");
        edge("0 it was done", FIVE, "undo()=1; undo()=-14; why()=14; wash(0)=0; why()=0; wash(9)=-2; room(0)=10000",
            "why()=0");
        edge("changes nothing but WHY, tries, the trace and, as told, WHICH", scene, "rule(0, 5, 3, 5, 0)",
            "judge(2, 0)=0; which()=0; wash(9)=-2; which()=0; pick(2, 1)=1; pick(2, 2)=-13; blend(2)=-13; picked()=1",
            "blend(0)=1; part(0, 5)=1; judge(9, 0)=-2; which()=-1");
    }

    private static void lookUps() {
        edge("a barrel's number that is not 0 .. 999", FIVE, "wash(-1)=-3; wash(1000)=-3; wash(999)=-2; wash(0)=0",
            "wash(-2147483648)=-3; wash(2147483647)=-3");
        edge("a row's not 0 .. 19", "lift(-1, 0)=-3; lift(20, 0)=-3; lift(0, 0)=-6; lift(19, 0)=-6",
            "lift(-2147483648, 0)=-3; lift(2147483647, 0)=-3");
        edge("a label's not 0 .. 39", FIVE, "judge(0, -1)=-3; judge(0, 40)=-3; judge(0, 0)=-2; judge(0, 39)=-2",
            "judge(0, -2147483648)=-3; judge(0, 2147483647)=-3");
        edge("a place that its row has not", "row(3, 0, 2); lift(3, -1)=-3; lift(3, 2)=-3; lift(3, 0)=-2",
            "lift(3, 1)=-2; lift(3, -2147483648)=-3; lift(3, 2147483647)=-3; row(4, 0, 0); lift(4, 0)=-3",
            "lift(4, -1)=-3");
        edge("\"b is looked up\": 3, then 2, of a barrel's number", FIVE, "room(-1)=-3; room(1000)=-3; room(5)=-2",
            "room(999)=-2; room(4)=0");
        edge("\"as a vessel\" (or \"cask\"): 3, then 4 if it is made and none, then 2.", FIVE, "wash(1000)=-3",
            "wash(-1)=-3; wash(4)=-4; wash(5)=-2; leave(1000)=-3; leave(-1)=-3; leave(3)=-4; leave(5)=-2");
        edge("\"A place is read\": 3 of the row's number, then 6, then 3 of the place.", "row(3, 0, 2)",
            "lift(20, 9)=-3; lift(4, 9)=-6; lift(4, -1)=-6; lift(3, 2)=-3");
        edge("FREE: on the floor or in a row.", FIVE, "row(0, 0, 5); fill(0, 5, 50); lay(0, 0, 0); lay(2, 0, 2)",
            "fill(0, 5, 50)=100; rack(0, 2, 10)=10; topUp(2, 0)=80; drain(2, 5, 1)=85; bottle(2, 1, 5)=1; wash(2)=80",
            "join(4, 1); lay(4, 0, 4); bottle(4, 1, 1)=-10; pick(0, 5); blend(3)=-10; label(); plan(0, 5, 5)=-14",
            "fill(0, 5, 50); plan(0, 5, 5)=500; blend(3)=5");
    }

    private static void notFree() {
        edge("FREE: on the floor or in a row.", "barrel(5, 0, 0); barrel(3, 900, 0); barrel(3, 900, 0)",
            "fill(1, 5, 100); fill(2, 5, 100); join(0, 1); fill(1, 5, 1)=-9; rack(1, 2, 1)=-9; rack(2, 1, 1)=-9",
            "topUp(1, 2)=-9; topUp(2, 1)=-9; bottle(1, 1, 1)=-9; drain(1, 1, 1)=-9; drain(1, 1, 2)=-9; wash(1)=-9",
            "join(0, 1)=-9; row(0, 0, 1); lay(1, 0, 0)=-9; pick(2, 1); blend(1)=-9; forget(); pick(1, 1); blend(2)=-9",
            "label(); plan(0, 5, 5)=-9; leave(0)=1; plan(0, 5, 5)=0; blend(2)=1");
    }

    private static void traces() {
        edge("the first 200 of them", Edges.times(0, 199, b -> "barrel(1, 9, 0)"), "breathe(1)=0; trace(0)=10",
            "trace(199)=10; trace(200)=0; barrel(3, 9, 0); breathe(1)=0; trace(199)=10; trace(200)=0; trace(201)=0");
        edge("the first 200 of them", "barrel(3, 9, 0)", Edges.times(1, 101, b -> "barrel(2, 9, 0)"), "breathe(1)=0",
            "trace(0)=9; trace(197)=11; trace(198)=10; trace(199)=11; trace(200)=0; wash(0)=0; trace(0)=0");
        edge("also when it was refused behind them", FIVE, "fill(0, 5, 10001)=-11; traced(1); rack(1, 0, 1)=-10",
            "traced(6, 5); fill(9, 5, 1)=-2; traced(); bottle(2, 1, 1)=-10; traced(7)");
        String many = FIVE + ";" + Edges.times(0, 59, i -> "fill(0, " + i + ", 1)") + "fill(2, 100, 5); join(4, 2);";
        edge("At rack, topUp, blend all is drawn, in thought, ahead of reason 12", many, "rack(4, 0, 1)=-12",
            "traced(8, 7, 1, 7); topUp(0, 4)=-12; traced(1, 8, 7, 7); pick(4, 1); blend(0)=-12; traced(8, 7, 1, 7)");
        edge("SPARE of a cask's members is asked for that ahead of it.", many, "leave(4); join(4, 1); join(4, 2)",
            "rack(4, 0, 1)=-12; traced(8, 6, 5, 7, 1, 6, 5, 7); topUp(0, 4)=-12; traced(1, 8, 6, 5, 7, 6, 5, 7)",
            "pick(3, 1); pick(4, 1); blend(0)=-10; traced(7); fill(3, 50, 1); blend(0)=-12",
            "traced(7, 8, 6, 5, 7, 1, 6, 5, 7)");
        edge("What plan draws in thought is not in the trace.", FIVE, "fill(2, 5, 9); fill(0, 6, 30); join(4, 2)",
            "join(4, 0); label(); pick(4, 1); plan(0, 12, 4)=12000; traced(8, 7, 5, 15, 15, 15); planned(0)=12");
    }

    private static void undos() {
        String scene = FIVE + "; row(0, 0, 3); fill(0, 5, 5000); fill(0, 6, 4000); fill(2, 7, 900); join(4, 1);"
            + "lay(2, 0, 1); bottle(2, 3, 100); breathe(1);";
        edge("UNDO takes back the latest of row, barrel, join, leave, lay, lift, fill, rack, topUp, blend, breathe,"
                + " bottle, drain, wash, worth that was done", scene, "row(19, 6, 60); undo()=1; barrel(5, 0, 0)",
            "undo()=1; barrel(1, 5, 0); undo()=1; join(4, 3); undo()=1; leave(4); undo()=1; lay(4, 0, 2); undo()=1",
            "lift(0, 1); undo()=1; fill(3, 9, 5); undo()=1; fill(0, 5, 5); undo()=1; rack(0, 2, 7); undo()=1",
            "rack(2, 0, 801); undo()=1; topUp(3, 0); undo()=1; worth(4, 0); undo()=1");
        edge("blend, breathe, bottle, drain, wash, worth", scene, "pick(0, 17); pick(2, 3); blend(3); undo()=1",
            "breathe(12); undo()=1; bottle(0, 7, 71); undo()=1; drain(0, 13, 1); undo()=1; drain(0, 13, 2); undo()=1",
            "wash(0); undo()=1; wash(3); undo()=1; leave(4); undo()=1; breathe(1); undo()=1; undo()=-14");
        edge("UNDO takes back the latest", scene, "leave(4); fill(1, 5, 100); join(4, 1); join(4, 3); rack(4, 0, 85)",
            "undo()=1; bottle(4, 2, 21); undo()=1; breathe(12); undo()=1; pick(4, 9); blend(0); undo()=1; topUp(0, 4)",
            "undo()=1; amount(1)=100");
        edge("that was done", scene, "drain(0, 5, 1); wash(4)=-4; row(0, 0, 1)=-8; barrel(0, 0, 0)=-1; join(4, 4)=-4",
            "lay(2, 0, 0)=-9; lift(0, 0)=-2; fill(0, 5, 0)=-1; rack(0, 0, 1)=-13; topUp(0, 0)=-13; blend(0)=-10",
            "undo()=1");
        edge("that was done", scene, "drain(0, 5, 1); pick(0, 1); forget(); partAt(0, 0); amountAt(0, 0); room(0)",
            "label(); rule(0, 5, 1, 1, 1); judge(0, 0); pick(0, 1); plan(0, 4, 2); undo()=1; planned(0)=4; undo()=-14");
        edge("if no undo was done since", "undo()=-14; barrel(1, 9, 0); barrel(2, 9, 0); undo()=1; undo()=-14",
            "kindOf(0)=1; barrel(3, 9, 0); undo()=1; kindOf(1)=0; undo()=-14; label(); undo()=-14");
        edge("Tries, numbers given, labels stay.", scene, "label(); fill(3, 9, 5); rule(0, 4, 1, 1, 0); label()",
            "rule(1, 4, 1, 1, 0); tries()=18; undo()=1; tries()=19; rule(0, 4, 1, 1, 0)=2; rule(1, 4, 1, 1, 0)=2",
            "label()=2");
        edge("NUMBERS of bottlings are given by this cellar, 1, 2, .., and none twice, also behind undo.", FIVE,
            "fill(2, 5, 900); bottle(2, 0, 1)=-5; bottle(2, 1, 5)=1; bottle(2, 1, 5)=2; undo()=1; bottlings()=1",
            "bottle(2, 2, 1)=-10; bottle(2, 1, 5)=3; undo()=1; bottle(2, 1, 5)=4; bottling(0, 0)=1; bottling(1, 0)=4");
    }

    public static void main(String[] args) {
        numbers();
        barrels();
        rows();
        most();
        spare();
        rateAndDear();
        shares();
        sharesOfCasks();
        labels();
        labelsOfTwo();
        acts();
        lookUps();
        notFree();
        traces();
        undos();
        Edges.end(0, 0);
    }
}
