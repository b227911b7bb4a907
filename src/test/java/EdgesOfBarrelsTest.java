/** The edges of promises 1 to 8: a new object, rows and barrels. */
public final class EdgesOfBarrelsTest {
    private static final String FIVE = Edges.FIVE;
    private static final int MIN = Integer.MIN_VALUE;
    private static final int MAX = Integer.MAX_VALUE;

    private EdgesOfBarrelsTest() {
    }

    private static void newObject() {
        Edges.edge(1, "No barrel",
            "kindOf(0)=0; where(0)=-1; amount(0)=0; parts(0)=0; wash(0)=-2; digest()=" + Edges.digestOf(0, 0, 0));
        Edges.edge(1, "no row", Edges.times(0, 19, r -> "lift(" + r + ", 0)=-6; at(" + r + ", 0)=-1"));
        Edges.edge(1, "no label", "barrel(1, 9, 0); judge(0, 0)=-2; judge(0, 39)=-2; rule(0, 4, 1, 1, 0)=-2",
            "label()=0");
        Edges.edge(1, "WHY 0, WHICH -1", "why()=0; which()=-1; tries()=0; closed()=1; trace(0)=0");
        Edges.edge(1, "nothing picked", "picked()=0; blend(0)=-10; forget()=0");
        Edges.edge(1, "nothing planned", Edges.times(-1, 8, i -> "planned(" + i + ")=0"));
        Edges.edge(1, "A new object", "undo()=-14; month()=0; entries()=0; bottlings()=0; odd()=0; strays()=0");
    }

    private static void row() {
        Edges.edge(2, "Row r is built: of a kind, with n places.", "row(3, 4, 2)=2; lift(3, 1)=-2; lift(3, 2)=-3",
            FIVE, "lay(3, 3, 1)=3; lay(2, 3, 0)=-4; lift(2, 0)=-6; lift(4, 0)=-6");
        Edges.edge(2, "Answers n.", "row(0, 0, 0)=0; row(1, 0, 1)=1; row(2, 0, 59)=59; row(3, 0, 60)=60");
        Edges.edge(2, "with n places", "row(0, 0, 0)=0; lift(0, 0)=-3; row(1, 0, 60)=60; lift(1, 59)=-2",
            "lift(1, 60)=-3");
        Edges.edge(2, "1 (kind not 0 .. 6", "row(0, -1, 1)=-1; row(0, 7, 1)=-1; row(0, " + MIN + ", 1)=-1",
            "row(0, " + MAX + ", 1)=-1; row(0, 0, 1)=1; row(1, 6, 1)=1");
        Edges.edge(2, "or n above 60)", "row(0, 0, 61)=-1; row(0, 0, " + MAX + ")=-1; row(0, 0, 60)=60");
        Edges.edge(2, "3;", "row(-1, 0, 1)=-3; row(20, 0, 1)=-3; row(" + MIN + ", 0, 1)=-3; row(" + MAX + ", 0, 1)=-3",
            "row(0, 0, 1)=1; row(19, 0, 1)=1");
        Edges.edge(2, "8: it is built", FIVE, "row(5, 2, 1)=1; row(5, 2, 1)=-8; row(5, 0, 9)=-8; lay(0, 5, 0)=-4",
            "lay(1, 5, 1)=-3; row(6, 0, 0)=0; row(6, 0, 3)=-8; lift(6, 0)=-3; undo()=1; row(6, 0, 3)=3");
        Edges.edge(2, "7.", "row(0, 0, -1)=-7; row(0, 0, " + MIN + ")=-7; row(0, 0, 0)=0");
        Edges.edge(2, "Reasons: 1 (kind not 0 .. 6, or n above 60); 3; 8: it is built; 7.", "row(0, 0, 1)",
            "row(20, 7, 1)=-1; row(20, 0, 61)=-1; row(0, 7, 1)=-1; row(0, 0, 61)=-1; row(1, 7, -1)=-1",
            "row(20, 0, -1)=-3; row(0, 0, -1)=-8; row(0, -1, -1)=-1");
    }

    private static void barrel() {
        Edges.edge(3, "A new barrel on the floor. Answers its number.", "barrel(1, 5, 0)=0; barrel(5, 0, 0)=1",
            "where(1)=0; barrel(6, 5, 0)=-1; barrel(2, 5, 0)=2; undo()=1; barrel(3, 5, 0)=2; kindOf(2)=3");
        Edges.edge(3, "1 (kind not 1 .. 5", "barrel(0, 5, 0)=-1; barrel(6, 5, 0)=-1; barrel(" + MIN + ", 5, 0)=-1",
            "barrel(" + MAX + ", 5, 0)=-1", Edges.times(1, 5, k -> "barrel(" + k + ", 5, 0)=" + (k - 1)));
        Edges.edge(3, "size not 1 .. 1000000000",
            Edges.times(1, 4, k -> "barrel(" + k + ", 0, 0)=-1; barrel(" + k + ", -1, 0)=-1"),
            Edges.times(1, 4, k -> "barrel(" + k + ", 1000000001, 0)=-1; barrel(" + k + ", 1, 0)=" + (2 * k - 2)
                + "; barrel(" + k + ", 1000000000, 0)=" + (2 * k - 1)),
            "barrel(1, " + MIN + ", 0)=-1; barrel(4, " + MAX + ", 0)=-1; room(0)=1; room(1)=1000000000");
        Edges.edge(3, "of a cask it is not looked at",
            "barrel(5, 0, 0)=0; barrel(5, -1, 0)=1; barrel(5, " + MIN + ", 0)=2",
            "barrel(5, " + MAX + ", 0)=3; barrel(5, 1000000001, 0)=4; room(3)=0; digest()="
                + Edges.digestOf(5, 5, 0, 0, 0, 0, 5, 0, 0, 0, 0, 5, 0, 0, 0, 0, 5, 0, 0, 0, 0, 5, 0, 0, 0, 0, 0, 0));
        Edges.edge(3, "cents not 0 .. 1000000)", "barrel(1, 5, -1)=-1; barrel(1, 5, 1000001)=-1; barrel(5, 0, -1)=-1",
            "barrel(5, 0, 1000001)=-1; barrel(1, 5, " + MIN + ")=-1; barrel(1, 5, " + MAX + ")=-1; barrel(1, 5, 0)=0",
            "barrel(1, 5, 1000000)=1; worth(1, 7)=1000000; worth(0, 7)=0");
        Edges.edge(3, "Answers its number.", Edges.times(0, 498, b -> "barrel(3, 9, 0)"), "barrel(5, 0, 0)=499",
            "join(499, 498)=1; where(498)=10499; kindOf(499)=5; kindOf(500)=0");
        Edges.longEdge(3, "12: 1000 are made", Edges.times(0, 998, b -> "barrel(3, 9, 0)"), "barrel(3, 9, 0)=999",
            "barrel(3, 9, 0)=-12; barrel(0, 9, 0)=-1; barrel(3, 9, -1)=-1; undo()=1; barrel(5, 0, 0)=999",
            "barrel(1, 9, 0)=-12");
    }

    private static void join() {
        String seven = FIVE + "; barrel(5, 0, 0); barrel(1, 9, 0);";
        Edges.edge(4, "A vessel that is on the floor goes into a cask.", seven, "join(4, 0)=1; where(0)=10004",
            "join(5, 1)=1; where(1)=10005; parts(4)=1; where(4)=0");
        Edges.edge(4, "Answers how many members that has then.", seven, "join(4, 3)=1; join(4, 2)=2; join(4, 1)=3",
            "join(4, 0)=4");
        Edges.edge(4, "c is looked up as a cask", seven, "join(-1, 0)=-3; join(1000, 0)=-3; join(0, 1)=-4",
            "join(3, 1)=-4", "join(7, 0)=-2; join(999, 0)=-2; join(" + MIN + ", 0)=-3; join(" + MAX + ", 0)=-3");
        Edges.edge(4, "b as a vessel", seven, "join(4, -1)=-3; join(4, 1000)=-3; join(4, 4)=-4; join(4, 5)=-4",
            "join(4, 7)=-2", "join(4, 999)=-2; join(4, " + MIN + ")=-3; join(4, " + MAX + ")=-3");
        Edges.edge(4, "9: b is not on the floor", seven, "join(4, 0); join(4, 0)=-9; join(5, 0)=-9; row(0, 0, 1)",
            "lay(1, 0, 0); join(4, 1)=-9; lift(0, 0); join(4, 1)=2; leave(4)=1; leave(4)=0; join(5, 0)=1");
        Edges.edge(4, "12: it has 4 members", seven, Edges.times(0, 3, b -> "join(4, " + b + ")"), "join(4, 6)=-12",
            "leave(4)=3; join(4, 6)=4; join(4, 3)=-12; join(5, 3)=1");
        Edges.edge(4,
            "Reasons: c is looked up as a cask; b as a vessel; 9: b is not on the floor; 12: it has 4 members.", seven,
            Edges.times(0, 3, b -> "join(4, " + b + ")"), "join(7, 1000)=-2; join(0, 1000)=-4; join(0, 7)=-4",
            "join(1000, 7)=-3; join(1000, 4)=-3; join(7, 4)=-2; join(4, 0)=-9; join(4, 5)=-4; join(4, 7)=-2",
            "join(4, 1000)=-3");
    }

    private static void leave() {
        Edges.edge(5, "The latest member of a cask goes to the floor. Answers its number.", FIVE, "join(4, 2)",
            "join(4, 0); leave(4)=0; where(0)=0; where(2)=10004; parts(4)=1; leave(4)=2; where(2)=0; parts(4)=0");
        Edges.edge(5, "c is looked up as a cask", FIVE, "leave(-1)=-3; leave(1000)=-3; leave(0)=-4; leave(3)=-4",
            "leave(5)=-2", "leave(999)=-2; leave(" + MIN + ")=-3; leave(" + MAX + ")=-3");
        Edges.edge(5, "3: it has none", FIVE, "leave(4)=-3; join(4, 1); leave(4)=1; leave(4)=-3");
    }

    private static void lay() {
        Edges.edge(6, "A barrel that is on the floor is laid at a place. Answers b.", FIVE, "row(0, 0, 60)",
            "row(19, 0, 60); lay(0, 0, 0)=0; where(0)=1; lay(1, 0, 59)=1; where(1)=60; lay(2, 19, 0)=2; where(2)=1901",
            "lay(4, 19, 59)=4; where(4)=1960; at(19, 59)=4");
        Edges.edge(6, "b is looked up", FIVE, "row(0, 0, 1); lay(-1, 0, 0)=-3; lay(1000, 0, 0)=-3; lay(5, 0, 0)=-2",
            "lay(999, 0, 0)=-2; lay(" + MIN + ", 0, 0)=-3; lay(" + MAX + ", 0, 0)=-3");
        Edges.edge(6, "9: it is not on the floor", FIVE, "row(0, 0, 3); lay(0, 0, 0); lay(0, 0, 1)=-9",
            "lay(0, 0, 0)=-9; join(4, 1); lay(1, 0, 1)=-9; lay(4, 0, 1)=4; leave(4)=1; lay(1, 0, 2)=1");
        Edges.edge(6, "the place is read", FIVE, "row(0, 0, 1); lay(0, -1, 0)=-3; lay(0, 20, 0)=-3; lay(0, 1, 0)=-6",
            "lay(0, 0, -1)=-3; lay(0, 0, 1)=-3; lay(0, 1, 99)=-6; lay(0, " + MIN + ", 0)=-3; lay(0, " + MAX
                + ", 0)=-3", "lay(0, 0, " + MIN + ")=-3; lay(0, 0, " + MAX + ")=-3; row(2, 0, 0); lay(0, 2, 0)=-3");
        Edges.edge(6, "8: a barrel lies there", FIVE, "row(0, 0, 2); lay(0, 0, 1); lay(1, 0, 1)=-8; lift(0, 1)",
            "lay(1, 0, 1)=1");
        Edges.edge(6, "4: the row does not take it", FIVE, "row(0, 5, 1); lay(0, 0, 0)=-4; where(0)=0; at(0, 0)=-1",
            "lay(4, 0, 0)=4");
        Edges.edge(6, "Reasons: b is looked up; 9: it is not on the floor; the place is read; 8: a barrel lies there;"
                + " 4: the row does not take it.", FIVE, "row(0, 2, 1); lay(1, 0, 0); lay(1000, 1, 0)=-3",
            "lay(5, 20, 0)=-2; lay(5, 1, 0)=-2; lay(5, 0, 9)=-2; lay(1, 20, 0)=-9; lay(1, 1, 0)=-9; lay(1, 0, 9)=-9",
            "lay(1, 0, 0)=-9; lay(0, 0, 0)=-8; lay(0, 0, 1)=-3");
    }

    private static void lift() {
        Edges.edge(7, "What lies at a place goes to the floor. Answers its number.", FIVE, "row(0, 0, 2)",
            "lay(0, 0, 1); lay(4, 0, 0); lift(0, 1)=0; where(0)=0; at(0, 1)=-1; at(0, 0)=4; lift(0, 0)=4; where(4)=0");
        Edges.edge(7, "the place is read", "row(0, 0, 2); lift(-1, 0)=-3; lift(20, 0)=-3; lift(1, 0)=-6",
            "lift(0, -1)=-3",
            "lift(0, 2)=-3; lift(1, 9)=-6; lift(" + MIN + ", 0)=-3; lift(" + MAX + ", 0)=-3; lift(0, " + MIN + ")=-3",
            "lift(0, " + MAX + ")=-3; lift(20, 9)=-3");
        Edges.edge(7, "2.", FIVE, "row(0, 0, 2); lift(0, 0)=-2; lift(0, 1)=-2; lay(0, 0, 0); lift(0, 0)=0",
            "lift(0, 0)=-2");
    }

    private static void worth() {
        Edges.edge(8, "CENTS of a barrel are told anew. Answers what they were.", FIVE, "worth(0, 7)=100",
            "worth(0, 7)=7; worth(4, 0)=500; worth(4, 1)=0; worth(0, 0)=7");
        Edges.edge(8, "1 (not 0 .. 1000000)", FIVE, "worth(0, -1)=-1; worth(0, 1000001)=-1; worth(0, " + MIN + ")=-1",
            "worth(0, " + MAX + ")=-1; worth(0, 0)=100; worth(0, 1000000)=0; worth(0, 5)=1000000");
        Edges.edge(8, "b is looked up", FIVE, "worth(-1, 5)=-3; worth(1000, 5)=-3; worth(5, 5)=-2; worth(999, 5)=-2",
            "worth(" + MIN + ", 5)=-3; worth(" + MAX + ", 5)=-3");
        Edges.edge(8, "Reasons: 1 (not 0 .. 1000000); b is looked up.", FIVE, "worth(1000, -1)=-1",
            "worth(5, 1000001)=-1");
    }

    public static void main(String[] args) {
        newObject();
        row();
        barrel();
        join();
        leave();
        lay();
        lift();
        worth();
        Edges.end(1, 8);
    }
}
