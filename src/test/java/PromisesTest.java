/** For each promise of the document: ordinary inputs, the edges that it names, and wrong inputs. */
public final class PromisesTest {
    private static final int OAK = 1;
    private static final int NEW = 2;
    private static final int STEEL = 3;
    private static final int GLASS = 4;
    private static final int CASK = 5;
    private static int wrong = 0;
    private static int asked = 0;
    private static int promise = 0;

    private static void due(String call, long got, long want) {
        asked++;
        if (got != want) {
            wrong++;
            System.out.println("promise " + promise + ": " + call + " answered " + got + ", due is " + want);
        }
    }

    /** Holds the whole trace of the latest act against what is due. */
    private static void trace(BlendCellar x, String call, int... bodies) {
        for (int i = 0; i < bodies.length; i++) {
            due("trace(" + i + ") behind " + call, x.trace(i), bodies[i]);
        }
        due("the end of the trace behind " + call, x.trace(bodies.length), 0);
    }

    /** A cellar with one barrel of each kind: 0 OAK, 1 NEW, 2 STEEL, 3 GLASS, 4 CASK, sizes 10000. */
    private static BlendCellar five() {
        BlendCellar x = new BlendCellar();
        for (int kind = OAK; kind <= CASK; kind++) {
            x.barrel(kind, 10000, 100 * kind);
        }
        return x;
    }

    private static int part(int harvest, int vineyard, int grape) {
        return 256 * harvest + 16 * vineyard + grape;
    }

    private static void newObject() {
        BlendCellar x = new BlendCellar();
        due("kindOf(0)", x.kindOf(0), 0);
        due("where(0)", x.where(0), -1);
        due("at(0, 0)", x.at(0, 0), -1);
        due("why()", x.why(), 0);
        due("which()", x.which(), -1);
        due("picked()", x.picked(), 0);
        due("planned(0)", x.planned(0), 0);
        due("tries()", x.tries(), 0);
        due("closed()", x.closed(), 1);
        due("month()", x.month(), 0);
        due("entries()", x.entries(), 0);
        due("bottlings()", x.bottlings(), 0);
        due("trace(0)", x.trace(0), 0);
        due("odd()", x.odd(), 0);
        due("strays()", x.strays(), 0);
        due("digest()", x.digest(), ((7 * 31 + 0) * 31 + 0) * 31 + 0);
        due("lift(0, 0): no row is built", x.lift(0, 0), -6);
        due("judge of no label", x.judge(0, 0), -2);
    }

    private static void row() {
        BlendCellar x = new BlendCellar();
        due("row(0, 0, 60)", x.row(0, 0, 60), 60);
        due("row(19, 6, 0)", x.row(19, 6, 0), 0);
        due("row(1, 7, 1)", x.row(1, 7, 1), -1);
        due("row(1, -1, 1)", x.row(1, -1, 1), -1);
        due("row(1, 0, 61)", x.row(1, 0, 61), -1);
        due("row(20, 7, 1): 1 is ahead of 3", x.row(20, 7, 1), -1);
        due("row(20, 0, -1): 3 is ahead of 7", x.row(20, 0, -1), -3);
        due("row(-1, 0, 1)", x.row(-1, 0, 1), -3);
        due("row(0, 0, -1): 8 is ahead of 7", x.row(0, 0, -1), -8);
        due("row(19, 0, 3): a row without places is built, too", x.row(19, 0, 3), -8);
        due("row(1, 0, min)", x.row(1, 0, Integer.MIN_VALUE), -7);
        due("row(1, 0, 1): a refused row was not built", x.row(1, 0, 1), 1);
        due("at(0, 59)", x.at(0, 59), -1);
    }

    private static void barrel() {
        BlendCellar x = new BlendCellar();
        due("barrel(1, 1, 0)", x.barrel(1, 1, 0), 0);
        due("barrel(4, 1000000000, 1000000)", x.barrel(4, 1000000000, 1000000), 1);
        due("barrel(5, -7, 5): size is not looked at", x.barrel(5, -7, 5), 2);
        due("where(2): on the floor", x.where(2), 0);
        due("barrel(0, 5, 5)", x.barrel(0, 5, 5), -1);
        due("barrel(6, 5, 5)", x.barrel(6, 5, 5), -1);
        due("barrel(3, 0, 5)", x.barrel(3, 0, 5), -1);
        due("barrel(3, 1000000001, 5)", x.barrel(3, 1000000001, 5), -1);
        due("barrel(3, 5, -1)", x.barrel(3, 5, -1), -1);
        due("barrel(3, 5, 1000001)", x.barrel(3, 5, 1000001), -1);
        due("barrel(5, 5, 1000001)", x.barrel(5, 5, 1000001), -1);
        due("barrel(2, 5, 5): refused ones take no number", x.barrel(2, 5, 5), 3);
        due("undo()", x.undo(), 1);
        due("barrel(3, 5, 5): taken back, the number is free", x.barrel(3, 5, 5), 3);
        for (int b = 4; b < 1000; b++) {
            x.barrel(3, 5, 5);
        }
        due("barrel(0, 5, 5): 1 is ahead of 12", x.barrel(0, 5, 5), -1);
        due("barrel(3, 5, 5): 1000 are made", x.barrel(3, 5, 5), -12);
    }

    private static void join() {
        BlendCellar x = five();
        due("join(4, 0)", x.join(4, 0), 1);
        due("where(0)", x.where(0), 10004);
        due("join(0, 1): no cask", x.join(0, 1), -4);
        due("join(5, 1): not made", x.join(5, 1), -2);
        due("join(1000, 1)", x.join(1000, 1), -3);
        due("join(-1, 1)", x.join(-1, 1), -3);
        due("join(4, 4): no vessel", x.join(4, 4), -4);
        due("join(4, 5)", x.join(4, 5), -2);
        due("join(4, 1000)", x.join(4, 1000), -3);
        due("join(4, 0): in a cask", x.join(4, 0), -9);
        x.row(0, 0, 1);
        x.lay(1, 0, 0);
        due("join(4, 1): in a row", x.join(4, 1), -9);
        x.lift(0, 0);
        due("join(4, 1)", x.join(4, 1), 2);
        due("join(4, 2)", x.join(4, 2), 3);
        due("join(4, 3)", x.join(4, 3), 4);
        due("join(4, 3): 9 is ahead of 12", x.join(4, 3), -9);
        x.barrel(STEEL, 10, 0);
        due("join(4, 5): 4 members", x.join(4, 5), -12);
        due("parts(4)", x.parts(4), 4);
    }

    private static void leave() {
        BlendCellar x = five();
        due("leave(4): it has none", x.leave(4), -3);
        x.join(4, 2);
        x.join(4, 0);
        due("leave(4): the latest", x.leave(4), 0);
        due("where(0)", x.where(0), 0);
        due("where(2)", x.where(2), 10004);
        due("leave(0): no cask", x.leave(0), -4);
        due("leave(9)", x.leave(9), -2);
        due("leave(1000)", x.leave(1000), -3);
        due("leave(4)", x.leave(4), 2);
        due("leave(4): it has none any more", x.leave(4), -3);
    }

    private static void lay() {
        BlendCellar x = five();
        String[] takers = {"01234", "01", "1", "23", "3", "4", "0123"};
        for (int kind = 0; kind <= 6; kind++) {
            x.row(kind, kind, 2);
            for (int b = 0; b < 5; b++) {
                boolean takes = takers[kind].indexOf('0' + b) >= 0;
                due("lay(" + b + ", " + kind + ", 1)", x.lay(b, kind, 1), takes ? b : -4);
                if (takes) {
                    due("where(" + b + ")", x.where(b), 1 + 100 * kind + 1);
                    due("at(" + kind + ", 1)", x.at(kind, 1), b);
                    x.lift(kind, 1);
                }
            }
        }
        x.lay(0, 0, 0);
        due("lay(0, 30, 0): 9 is ahead of the place", x.lay(0, 30, 0), -9);
        due("lay(5, 30, 0): looked up first", x.lay(5, 30, 0), -2);
        due("lay(1000, 0, 0)", x.lay(1000, 0, 0), -3);
        due("lay(1, 20, 0)", x.lay(1, 20, 0), -3);
        due("lay(1, -1, 0)", x.lay(1, -1, 0), -3);
        due("lay(1, 7, 99): 6 is ahead of 3", x.lay(1, 7, 99), -6);
        due("lay(1, 0, 2)", x.lay(1, 0, 2), -3);
        due("lay(1, 0, -1)", x.lay(1, 0, -1), -3);
        due("lay(1, 0, 0)", x.lay(1, 0, 0), -8);
        x.lay(3, 4, 0);
        due("lay(0 .. 2, 4, 0): 8 is ahead of 4", x.lay(2, 4, 0), -8);
        x.join(4, 2);
        due("lay(2, 0, 1): in a cask", x.lay(2, 0, 1), -9);
        due("lay(4, 0, 1): a cask with members", x.lay(4, 0, 1), 4);
    }

    private static void lift() {
        BlendCellar x = five();
        x.row(3, 0, 2);
        x.lay(2, 3, 1);
        due("lift(3, 0)", x.lift(3, 0), -2);
        due("lift(3, 2)", x.lift(3, 2), -3);
        due("lift(3, -1)", x.lift(3, -1), -3);
        due("lift(4, 5)", x.lift(4, 5), -6);
        due("lift(20, 0)", x.lift(20, 0), -3);
        due("lift(-1, 0)", x.lift(-1, 0), -3);
        due("lift(3, 1)", x.lift(3, 1), 2);
        due("where(2)", x.where(2), 0);
        due("at(3, 1)", x.at(3, 1), -1);
        due("lift(3, 1) again", x.lift(3, 1), -2);
    }

    private static void worth() {
        BlendCellar x = five();
        due("worth(1, 7)", x.worth(1, 7), 200);
        due("worth(1, 1000000)", x.worth(1, 1000000), 7);
        due("worth(1, 0)", x.worth(1, 0), 1000000);
        due("worth(99, -1): 1 is ahead", x.worth(99, -1), -1);
        due("worth(1, 1000001)", x.worth(1, 1000001), -1);
        due("worth(99, 1)", x.worth(99, 1), -2);
        due("worth(1000, 1)", x.worth(1000, 1), -3);
        due("worth(4, 3): casks, too", x.worth(4, 3), 500);
    }

    private static void fill() {
        BlendCellar x = five();
        due("fill(0, 4095, 9999)", x.fill(0, 4095, 9999), 9999);
        due("fill(0, 0, 2)", x.fill(0, 0, 2), -11);
        trace(x, "fill of OAK", 1);
        due("fill(0, 0, 1)", x.fill(0, 0, 1), 10000);
        due("fill(1, 0, 10000)", x.fill(1, 0, 10000), 10000);
        trace(x, "fill of NEW", 1);
        due("fill(2, 0, 9801)", x.fill(2, 0, 9801), -11);
        due("fill(2, 0, 9800)", x.fill(2, 0, 9800), 9800);
        trace(x, "fill of STEEL", 2);
        due("fill(3, 0, 9791)", x.fill(3, 0, 9791), -11);
        trace(x, "fill of GLASS", 3, 2);
        due("fill(3, 0, 9790)", x.fill(3, 0, 9790), 9790);
        due("fill(4, 0, 5): a cask", x.fill(4, 0, 5), -4);
        due("fill(9, 4096, 5): 1 is ahead", x.fill(9, 4096, 5), -1);
        due("fill(9, -1, 5)", x.fill(9, -1, 5), -1);
        due("fill(9, 0, 0)", x.fill(9, 0, 0), -1);
        due("fill(9, 0, 1000000001)", x.fill(9, 0, 1000000001L), -1);
        due("fill(9, 0, min)", x.fill(9, 0, Long.MIN_VALUE), -1);
        due("fill(9, 0, 1)", x.fill(9, 0, 1), -2);
        due("fill(1000, 0, 1)", x.fill(1000, 0, 1), -3);
        x.join(4, 0);
        due("fill(0, 0, 1): 9 is ahead of 11", x.fill(0, 0, 1), -9);
        trace(x, "fill in a cask");
        x.barrel(GLASS, 9, 0);
        due("fill(5, 0, 1): MOST is at least 0", x.fill(5, 0, 1), -11);
        due("room(5)", x.room(5), 0);
        x.barrel(OAK, 61, 0);
        for (int i = 0; i < 60; i++) {
            x.fill(6, 5 * i, 1);
        }
        due("fill(6, 1, 1): 60 other parts", x.fill(6, 1, 1), -12);
        due("fill(6, 1, 2): 11 is ahead of 12", x.fill(6, 1, 2), -11);
        due("fill(6, 5, 1): one of the 60", x.fill(6, 5, 1), 61);
    }

    private static void rack() {
        BlendCellar x = five();
        x.fill(0, 5, 10);
        x.fill(0, 3, 10);
        x.fill(0, 9, 10);
        due("rack(0, 2, 21): OAK keeps size / 1000", x.rack(0, 2, 21), -10);
        trace(x, "rack, 10", 5);
        due("rack(0, 2, 20)", x.rack(0, 2, 20), 20);
        trace(x, "rack", 5, 2);
        due("part(2, 3): the first one more", x.part(2, 3), 7);
        due("part(2, 5): the second one more", x.part(2, 5), 7);
        due("part(2, 9)", x.part(2, 9), 6);
        due("part(0, 9)", x.part(0, 9), 4);
        due("rack(2, 1, 20): STEEL gives all", x.rack(2, 1, 20), 20);
        due("parts(2): nothing left, no parts", x.parts(2), 0);
        due("rack(1, 2, 6): NEW keeps more", x.rack(1, 2, 6), -10);
        trace(x, "rack from NEW", 6, 5);
        due("rack(1, 2, 5)", x.rack(1, 2, 5), 5);
        due("rack(99, 99, 0): 1 is ahead", x.rack(99, 99, 0), -1);
        due("rack(0, 1, 1000000001)", x.rack(0, 1, 1000000001L), -1);
        due("rack(99, 4, 1): from is ahead", x.rack(99, 4, 1), -2);
        due("rack(1000, 4, 1)", x.rack(1000, 4, 1), -3);
        due("rack(0, 4, 1): to is a vessel", x.rack(0, 4, 1), -4);
        due("rack(0, 99, 1)", x.rack(0, 99, 1), -2);
        due("rack(0, 0, 1)", x.rack(0, 0, 1), -13);
        x.barrel(GLASS, 16, 0);
        due("rack(2, 5, 5)", x.rack(2, 5, 5), 5);
        due("rack(1, 5, 2): 10 is ahead of 11", x.rack(1, 5, 2), -10);
        x.fill(1, 3, 10);
        due("rack(1, 5, 2): MOST is 6", x.rack(1, 5, 2), -11);
        trace(x, "rack, 11", 6, 5, 3, 2);
        due("rack(1, 5, 1)", x.rack(1, 5, 1), 6);
        x.join(4, 0);
        due("rack(0, 2, 1): from is in a cask", x.rack(0, 2, 1), -9);
        due("rack(2, 0, 1): to is in a cask", x.rack(2, 0, 1), -9);
        due("rack(0, 0, 1): 13 is ahead of 9", x.rack(0, 0, 1), -13);
        rackManyParts();
        rackFromCask();
    }

    private static void rackManyParts() {
        BlendCellar x = new BlendCellar();
        x.barrel(STEEL, 1000, 0);
        x.barrel(STEEL, 1000, 0);
        for (int i = 0; i < 59; i++) {
            x.fill(0, i, 1);
        }
        x.fill(1, 100, 2);
        x.fill(1, 101, 1);
        long digest = x.digest();
        due("rack(1, 0, 3): 61 parts", x.rack(1, 0, 3), -12);
        trace(x, "rack, 12", 7, 2);
        due("digest(): nothing changed", x.digest(), digest);
        due("rack(1, 0, 1): only part 100 goes", x.rack(1, 0, 1), 60);
        due("part(0, 100)", x.part(0, 100), 1);
        due("parts(0)", x.parts(0), 60);
    }

    private static void rackFromCask() {
        BlendCellar x = five();
        x.fill(0, 1, 110);
        x.fill(1, 2, 115);
        x.fill(2, 3, 100);
        x.join(4, 0);
        x.join(4, 1);
        x.join(4, 2);
        due("rack(4, 3, 301)", x.rack(4, 3, 301), -10);
        trace(x, "rack of a cask, 10", 8, 5, 6, 5, 7);
        due("rack(4, 3, 150)", x.rack(4, 3, 150), 150);
        trace(x, "rack of a cask", 8, 5, 6, 5, 7, 3, 2, 5, 6, 5);
        due("amount(0): its SPARE is gone", x.amount(0), 10);
        due("amount(1)", x.amount(1), 65);
        due("amount(2)", x.amount(2), 100);
        due("rack(4, 3, 50): the first gives nothing", x.rack(4, 3, 50), 200);
        trace(x, "rack of a cask whose first gives nothing", 8, 5, 6, 5, 7, 3, 2, 5, 6, 5);
        due("rack(4, 3, 100)", x.rack(4, 3, 100), 300);
        trace(x, "rack of a cask whose last gives all", 8, 5, 6, 5, 7, 3, 2, 5, 6, 5, 7);
        due("amount(4)", x.amount(4), 25);
    }

    private static void topUp() {
        BlendCellar x = five();
        x.fill(0, 1, 9000);
        x.fill(2, 2, 9000);
        due("topUp(2, 0): MOST less its amount", x.topUp(2, 0), 800);
        trace(x, "topUp", 2, 5);
        due("topUp(2, 0): full", x.topUp(2, 0), -11);
        trace(x, "topUp, 11: SPARE was asked", 2, 5);
        due("topUp(1, 3): SPARE is 0", x.topUp(1, 3), -10);
        trace(x, "topUp, 10", 1, 7);
        due("topUp(2, 3): 11 is ahead of 10", x.topUp(2, 3), -11);
        due("topUp(3, 0): SPARE", x.topUp(3, 0), 8190);
        due("amount(0)", x.amount(0), 10);
        due("topUp(4, 99): to is ahead", x.topUp(4, 99), -4);
        due("topUp(99, 1000)", x.topUp(99, 1000), -2);
        due("topUp(1000, 99)", x.topUp(1000, 99), -3);
        due("topUp(1, 99)", x.topUp(1, 99), -2);
        due("topUp(1, 1000)", x.topUp(1, 1000), -3);
        due("topUp(1, 1)", x.topUp(1, 1), -13);
        x.join(4, 2);
        due("topUp(1, 2): in a cask", x.topUp(1, 2), -9);
        due("topUp(2, 1)", x.topUp(2, 1), -9);
        due("topUp(1, 4): from a cask", x.topUp(1, 4), 9800);
        trace(x, "topUp from a cask", 1, 8, 7, 7);
        x = new BlendCellar();
        x.barrel(STEEL, 1000, 0);
        x.barrel(STEEL, 1000, 0);
        for (int i = 0; i < 60; i++) {
            x.fill(0, i, 1);
        }
        x.fill(1, 60, 1);
        due("topUp(0, 1): 61 parts", x.topUp(0, 1), -12);
        due("topUp(1, 0): 61 parts", x.topUp(1, 0), -12);
    }

    private static void pick() {
        BlendCellar x = five();
        due("pick(4, 1)", x.pick(4, 1), 1);
        due("pick(0, 1000000000)", x.pick(0, 1000000000), 2);
        due("pick(0, 1)", x.pick(0, 1), -13);
        due("pick(99, 0): 1 is ahead", x.pick(99, 0), -1);
        due("pick(0, 1000000001)", x.pick(0, 1000000001L), -1);
        due("pick(99, 1)", x.pick(99, 1), -2);
        due("pick(1000, 1)", x.pick(1000, 1), -3);
        x.join(4, 1);
        due("pick(1, 1): also in a cask", x.pick(1, 1), 3);
        for (int b = 5; b < 10; b++) {
            x.barrel(STEEL, 5, 0);
            due("pick(" + b + ", 1)", x.pick(b, 1), b - 1);
        }
        due("pick(2, 1): 8 are picked", x.pick(2, 1), -12);
        due("pick(5, 1): 13 is ahead of 12", x.pick(5, 1), -13);
    }

    private static void forget() {
        BlendCellar x = five();
        due("forget()", x.forget(), 0);
        x.pick(1, 1);
        x.pick(2, 1);
        due("forget()", x.forget(), 2);
        due("picked()", x.picked(), 0);
        due("pick(1, 1)", x.pick(1, 1), 1);
    }

    private static void blend() {
        BlendCellar x = five();
        due("blend(1000): nothing picked is ahead", x.blend(1000), -10);
        x.fill(0, 1, 100);
        x.fill(1, 2, 100);
        x.fill(2, 3, 100);
        x.pick(0, 50);
        due("blend(1000)", x.blend(1000), -3);
        due("blend(99)", x.blend(99), -2);
        due("blend(4)", x.blend(4), -4);
        due("blend(0): it is picked", x.blend(0), -13);
        x.pick(1, 85);
        x.pick(2, 101);
        due("blend(3): the third has less", x.blend(3), -10);
        trace(x, "blend, 10", 5, 6, 5, 7);
        due("picked(): a refused blend forgets nothing", x.picked(), 3);
        x.join(4, 2);
        due("blend(3): one is in a cask", x.blend(3), -9);
        trace(x, "blend, 9");
        due("blend(2): 13 is ahead of 9", x.blend(2), -13);
        x.forget();
        x.pick(0, 50);
        due("blend(2): to is in a cask", x.blend(2), -9);
        x.barrel(STEEL, 135, 0);
        x.pick(4, 84);
        due("blend(5): MOST is 133", x.blend(5), -11);
        trace(x, "blend, 11", 5, 8, 7, 2);
        due("blend(3)", x.blend(3), 134);
        trace(x, "blend", 5, 8, 7, 3, 2, 7);
        due("picked()", x.picked(), 0);
        due("part(3, 1)", x.part(3, 1), 50);
        due("part(3, 3)", x.part(3, 3), 84);
        due("amount(4)", x.amount(4), 16);
        x.pick(3, 1);
        due("blend(0): answers the sum, not the amount", x.blend(0), 1);
        blendManyParts();
    }

    private static void blendManyParts() {
        BlendCellar x = five();
        x.barrel(STEEL, 10000, 0);
        for (int i = 0; i < 30; i++) {
            x.fill(5, i, 1);
            x.fill(2, 30 + i, 1);
        }
        x.fill(3, 59, 1);
        x.pick(5, 30);
        x.pick(2, 30);
        due("blend(3): 59 is one of the 60", x.blend(3), 60);
        due("parts(3)", x.parts(3), 60);
        due("undo()", x.undo(), 1);
        x.fill(3, 60, 1);
        x.pick(5, 30);
        x.pick(2, 30);
        due("blend(3): 61 parts", x.blend(3), -12);
        trace(x, "blend, 12", 7, 7, 3, 2);
        due("parts(3)", x.parts(3), 2);
    }

    private static void breathe() {
        BlendCellar x = five();
        x.fill(0, 7, 10000);
        x.fill(1, 7, 4000);
        x.fill(1, 8, 6000);
        x.fill(2, 7, 9800);
        x.fill(3, 7, 9790);
        due("breathe(0)", x.breathe(0), -1);
        due("breathe(13)", x.breathe(13), -1);
        due("month()", x.month(), 0);
        due("breathe(1)", x.breathe(1), 20 + 35);
        trace(x, "breathe", 10, 11, 10, 9, 12, 9);
        due("part(1, 7)", x.part(1, 7), 4000 - 14);
        due("part(1, 8)", x.part(1, 8), 6000 - 21);
        x.join(4, 0);
        due("breathe(2): each month from what is left, in casks, too", x.breathe(2), 19 + 34 + 19 + 34);
        due("amount(0)", x.amount(0), 9942);
        due("amount(1)", x.amount(1), 9897);
        due("amount(2)", x.amount(2), 9800);
        due("month()", x.month(), 3);
        due("account(7, 1) and (8, 1)", x.account(7, 1) + x.account(8, 1), 161);
        x = new BlendCellar();
        for (int b = 0; b < 105; b++) {
            x.barrel(NEW, 100000, 0);
        }
        x.fill(104, 1, 10000);
        due("breathe(12)", x.breathe(12), 35 + 8 * 34 + 3 * 33);
        due("trace(198)", x.trace(198), 11);
        due("trace(199)", x.trace(199), 10);
        due("trace(200): the first 200 alone", x.trace(200), 0);
    }

    private static void bottle() {
        BlendCellar x = five();
        x.fill(0, 7, 110);
        due("bottle(0, 7, 101): above SPARE", x.bottle(0, 7, 101), -10);
        trace(x, "bottle, 10", 5);
        due("bottle(0, 7, 100)", x.bottle(0, 7, 100), 1);
        due("amount(0): 7 of 14", x.amount(0), 12);
        due("account(7, 4)", x.account(7, 4), 98);
        due("bottle(0, 0, 3): 10 is ahead of 5", x.bottle(0, 0, 3), -10);
        due("bottle(0, 0, 2)", x.bottle(0, 0, 2), -5);
        due("bottle(0, 3, 2): nothing in each", x.bottle(0, 3, 2), -10);
        trace(x, "bottle, the second 10", 5);
        due("bottle(99, -1, 5): 1 is ahead", x.bottle(99, -1, 5), -1);
        due("bottle(99, 1000001, 5)", x.bottle(99, 1000001, 5), -1);
        due("bottle(99, 1, 0)", x.bottle(99, 1, 0), -1);
        due("bottle(99, 1, 1000000001)", x.bottle(99, 1, 1000000001L), -1);
        due("bottle(99, 1000000, 1)", x.bottle(99, 1000000, 1), -2);
        due("bottle(1000, 1, 1)", x.bottle(1000, 1, 1), -3);
        x.join(4, 0);
        due("bottle(0, 1, 1): in a cask", x.bottle(0, 1, 1), -9);
        due("bottle(4, 2, 2): of a cask", x.bottle(4, 2, 2), 2);
        trace(x, "bottle of a cask", 8, 5, 5);
        due("undo()", x.undo(), 1);
        due("bottle(4, 1, 2): no number twice", x.bottle(4, 1, 2), 3);
    }

    private static void drain() {
        BlendCellar x = five();
        x.fill(0, 7, 100);
        due("drain(0, 30, 1)", x.drain(0, 30, 1), 70);
        due("drain(0, 20, 2)", x.drain(0, 20, 2), 50);
        due("account(7, 2)", x.account(7, 2), 30);
        due("account(7, 3)", x.account(7, 3), 20);
        due("drain(0, 51, 1)", x.drain(0, 51, 1), -10);
        due("drain(0, 50, 1): SPARE is not asked", x.drain(0, 50, 1), 0);
        trace(x, "drain");
        due("drain(0, 1, 1): it is empty", x.drain(0, 1, 1), -2);
        due("drain(99, 1, 0): 1 is ahead", x.drain(99, 1, 0), -1);
        due("drain(99, 1, 3)", x.drain(99, 1, 3), -1);
        due("drain(99, 0, 1)", x.drain(99, 0, 1), -1);
        due("drain(99, 1000000001, 1)", x.drain(99, 1000000001L, 1), -1);
        due("drain(99, 1, 1)", x.drain(99, 1, 1), -2);
        due("drain(1000, 1, 1)", x.drain(1000, 1, 1), -3);
        due("drain(4, 1, 1)", x.drain(4, 1, 1), -4);
        x.join(4, 0);
        due("drain(0, 1, 1): 9 is ahead of 2", x.drain(0, 1, 1), -9);
    }

    private static void wash() {
        BlendCellar x = five();
        x.fill(1, 7, 60);
        x.fill(1, 8, 40);
        due("wash(1)", x.wash(1), 100);
        due("amount(1)", x.amount(1), 0);
        due("account(8, 3)", x.account(8, 3), 40);
        due("wash(1): empty, and yet done", x.wash(1), 0);
        due("why()", x.why(), 0);
        due("entries()", x.entries(), 4);
        due("wash(4)", x.wash(4), -4);
        due("wash(99)", x.wash(99), -2);
        due("wash(-1)", x.wash(-1), -3);
        x.join(4, 1);
        due("wash(1): in a cask", x.wash(1), -9);
    }

    private static void partAt() {
        BlendCellar x = five();
        x.fill(0, 300, 5);
        x.fill(0, 20, 6);
        due("partAt(0, 0)", x.partAt(0, 0), 20);
        due("partAt(0, 1)", x.partAt(0, 1), 300);
        due("partAt(0, 2)", x.partAt(0, 2), -3);
        due("partAt(0, -1)", x.partAt(0, -1), -3);
        due("partAt(1, 7): 2 is ahead of 3", x.partAt(1, 7), -2);
        due("partAt(4, 0)", x.partAt(4, 0), -4);
        due("partAt(99, 0)", x.partAt(99, 0), -2);
        due("partAt(1000, 0)", x.partAt(1000, 0), -3);
        x.join(4, 0);
        due("partAt(0, 0): also in a cask", x.partAt(0, 0), 20);
    }

    private static void amountAt() {
        BlendCellar x = five();
        x.fill(0, 300, 5);
        x.fill(0, 20, 6);
        due("amountAt(0, 0)", x.amountAt(0, 0), 6);
        due("amountAt(0, 1)", x.amountAt(0, 1), 5);
        due("amountAt(0, 2)", x.amountAt(0, 2), -3);
        due("amountAt(0, -1)", x.amountAt(0, -1), -3);
        due("amountAt(1, 7)", x.amountAt(1, 7), -2);
        due("amountAt(4, 0)", x.amountAt(4, 0), -4);
        due("amountAt(99, 0)", x.amountAt(99, 0), -2);
        due("amountAt(1000, 0)", x.amountAt(1000, 0), -3);
    }

    private static void room() {
        BlendCellar x = five();
        x.fill(3, 1, 90);
        due("room(3)", x.room(3), 9700);
        trace(x, "room", 3, 2);
        due("room(4)", x.room(4), 0);
        trace(x, "room of a cask without members", 4);
        x.join(4, 3);
        x.join(4, 1);
        due("room(4)", x.room(4), 19700);
        trace(x, "room of a cask", 4, 3, 2, 1);
        due("room(3): also in a cask", x.room(3), 9700);
        due("room(99)", x.room(99), -2);
        trace(x, "room, 2");
        due("room(1000)", x.room(1000), -3);
    }

    private static void label() {
        BlendCellar x = new BlendCellar();
        for (int l = 0; l < 40; l++) {
            due("label()", x.label(), l);
        }
        due("label(): 40 are made", x.label(), -12);
        due("rule(39, 4, 1, 1, 1)", x.rule(39, 4, 1, 1, 1), 1);
    }

    private static void rule() {
        BlendCellar x = new BlendCellar();
        due("rule(0, 6, 9, 99, 999): EITHER looks at no more", x.rule(0, 6, 9, 99, 999), -2);
        due("rule(40, 6, 0, 0, 0)", x.rule(40, 6, 0, 0, 0), -3);
        due("rule(-1, 1, 1, 0, 0)", x.rule(-1, 1, 1, 0, 0), -3);
        x.label();
        due("rule(40, 0, 1, 1, 1): 1 is ahead", x.rule(40, 0, 1, 1, 1), -1);
        due("rule(0, 7, 1, 1, 1)", x.rule(0, 7, 1, 1, 1), -1);
        due("rule(0, 1, 0, 1, 1)", x.rule(0, 1, 0, 1, 1), -1);
        due("rule(0, 1, 4, 1, 1)", x.rule(0, 1, 4, 1, 1), -1);
        due("rule(0, 1, 1, -1, 1)", x.rule(0, 1, 1, -1, 1), -1);
        due("rule(0, 1, 1, 16, 1)", x.rule(0, 1, 1, 16, 1), -1);
        due("rule(0, 4, 1, 1, -1): h also where it is not used", x.rule(0, 4, 1, 1, -1), -1);
        due("rule(0, 4, 1, 1, 101)", x.rule(0, 4, 1, 1, 101), -1);
        due("rule(0, 6, 0, 0, 0): it has none", x.rule(0, 6, 0, 0, 0), -10);
        due("rule(0, 1, 3, 15, 100)", x.rule(0, 1, 3, 15, 100), 1);
        due("rule(0, 6, 0, 0, 0): it has one", x.rule(0, 6, 0, 0, 0), -10);
        due("rule(0, 2, 1, 0, 0)", x.rule(0, 2, 1, 0, 0), 2);
        due("rule(0, 6, 0, 0, 0): of two one is made", x.rule(0, 6, 0, 0, 0), 1);
        for (int made = 3; made < 20; made++) {
            due("rule(0, 4, 1, 1, 1)", x.rule(0, 4, 1, 1, 1), made - 1);
        }
        due("rule(0, 4, 1, 1, 1): 20 were made", x.rule(0, 4, 1, 1, 1), -12);
        due("rule(0, 6, 1, 1, 1)", x.rule(0, 6, 1, 1, 1), -12);
        x.label();
        due("rule(1, 4, 1, 1, 1)", x.rule(1, 4, 1, 1, 1), 1);
        for (int made = 2; made <= 20; made += 2) {
            x.rule(1, 4, 1, 1, 1);
            x.rule(1, 6, 1, 1, 1);
        }
        due("rule(1, 6, 1, 1, 1): 12 is ahead of 10", x.rule(1, 6, 1, 1, 1), -12);
    }

    private static void judgeOne(BlendCellar x, int op, int dim, int value, int h, boolean holds) {
        int l = (int) x.label();
        x.rule(l, op, dim, value, h);
        String call = "judge by rule(.., " + op + ", " + dim + ", " + value + ", " + h + ")";
        due(call, x.judge(0, l), holds ? 1 : 0);
        due("which() behind " + call, x.which(), holds ? -1 : 0);
    }

    private static void judge() {
        BlendCellar x = five();
        x.fill(0, part(1, 2, 3), 200);
        x.fill(0, part(4, 2, 6), 100);
        judgeOne(x, 1, 1, 1, 66, true);
        judgeOne(x, 1, 1, 1, 67, false);
        judgeOne(x, 2, 1, 1, 67, true);
        judgeOne(x, 2, 1, 1, 66, false);
        judgeOne(x, 1, 3, 6, 33, true);
        judgeOne(x, 2, 3, 6, 33, false);
        judgeOne(x, 3, 2, 2, 0, true);
        judgeOne(x, 3, 1, 4, 0, false);
        judgeOne(x, 4, 3, 6, 0, true);
        judgeOne(x, 4, 3, 4, 0, false);
        judgeOne(x, 5, 3, 4, 0, true);
        judgeOne(x, 5, 2, 2, 0, false);
        int l = (int) x.label();
        due("judge by no rule", x.judge(0, l), 1);
        x.rule(l, 3, 2, 2, 0);
        x.rule(l, 4, 1, 9, 0);
        due("judge: the second does not hold", x.judge(0, l), 0);
        due("which()", x.which(), 1);
        due("judge(1000, l)", x.judge(1000, 99), -3);
        due("which(): -1 if refused", x.which(), -1);
        x.judge(0, l);
        due("judge(99, l)", x.judge(99, 99), -2);
        due("judge(0, 40)", x.judge(0, 40), -3);
        due("judge(0, 39)", x.judge(0, 39), -2);
        due("which()", x.which(), -1);
        x.rule(l, 4, 1, 4, 0);
        x.rule(l, 6, 0, 0, 0);
        due("judge: EITHER", x.judge(0, l), 1);
        judgeOfCask(x);
        judgeByNought();
        judgeNestedEither();
    }

    private static void judgeOfCask(BlendCellar x) {
        x.fill(1, part(4, 4, 4), 300);
        x.join(4, 0);
        x.join(4, 1);
        int l = (int) x.label();
        x.rule(l, 1, 1, 4, 66);
        due("judge of a cask", x.judge(4, l), 1);
        x.rule(l, 1, 1, 4, 67);
        due("judge of a cask", x.judge(4, l), 0);
        due("which()", x.which(), 1);
    }

    private static void judgeByNought() {
        BlendCellar x = five();
        int l = (int) x.label();
        x.rule(l, 3, 1, 1, 0);
        x.rule(l, 5, 1, 1, 0);
        due("judge of an empty vessel", x.judge(0, l), 1);
        x.rule(l, 2, 1, 1, 100);
        due("judge: shared by 0", x.judge(0, l), -5);
        due("which()", x.which(), 2);
        due("judge of a cask without members", x.judge(4, l), -5);
        l = (int) x.label();
        x.rule(l, 4, 1, 1, 0);
        x.rule(l, 1, 1, 1, 0);
        due("judge: the first fails ahead of it", x.judge(0, l), 0);
        due("which()", x.which(), 0);
        x.rule(l, 6, 0, 0, 0);
        due("judge: the second of EITHER shares", x.judge(0, l), -5);
        due("which(): the rule, as the label has it", x.which(), 0);
        l = (int) x.label();
        x.rule(l, 5, 1, 1, 0);
        x.rule(l, 1, 1, 1, 0);
        x.rule(l, 6, 0, 0, 0);
        due("judge: the first holds, the second is not asked", x.judge(0, l), 1);
        l = (int) x.label();
        x.rule(l, 1, 1, 1, 0);
        x.rule(l, 5, 1, 1, 0);
        x.rule(l, 6, 0, 0, 0);
        due("judge: the first shares, the second helps not", x.judge(0, l), -5);
    }

    private static void judgeNestedEither() {
        BlendCellar x = five();
        x.fill(0, part(1, 2, 3), 5);
        int l = (int) x.label();
        x.rule(l, 4, 1, 1, 0);
        x.rule(l, 4, 1, 9, 0);
        x.rule(l, 4, 2, 9, 0);
        x.rule(l, 4, 3, 9, 0);
        x.rule(l, 6, 0, 0, 0);
        due("rule: EITHER of EITHER", x.rule(l, 6, 0, 0, 0), 2);
        due("judge: none of three", x.judge(0, l), 0);
        due("which()", x.which(), 1);
        x.rule(l, 4, 3, 3, 0);
        due("rule: and once more", x.rule(l, 6, 0, 0, 0), 2);
        due("judge: the last of four", x.judge(0, l), 1);
    }

    private static void plan() {
        BlendCellar x = five();
        x.fill(0, part(1, 1, 1), 100);
        x.fill(1, part(1, 1, 1), 100);
        x.fill(2, part(1, 1, 2), 100);
        x.fill(3, part(1, 1, 2), 100);
        due("plan(99, 0, -1)", x.plan(99, 0, -1), -1);
        due("plan(99, 1000000001, 1)", x.plan(99, 1000000001L, 1), -1);
        due("plan(99, 10, -1)", x.plan(99, 10, -1), -1);
        due("plan(99, 10, 0)", x.plan(99, 10, 0), -5);
        due("plan(99, 0, 0): 1 is ahead of 5", x.plan(99, 0, 0), -1);
        due("plan(99, 10, 3)", x.plan(99, 10, 3), -1);
        due("plan(99, 13, 1)", x.plan(99, 13, 1), -1);
        due("plan(40, 12, 1)", x.plan(40, 12, 1), -3);
        due("plan(0, 12, 1)", x.plan(0, 12, 1), -2);
        x.label();
        due("plan(0, 12, 1): nothing picked", x.plan(0, 12, 1), -10);
        x.pick(0, 1);
        x.pick(1, 1);
        x.pick(2, 1);
        due("plan(0, 30, 10)", x.plan(0, 30, 10), 3000);
        trace(x, "plan", 5, 13, 13, 13, 6, 5, 14, 14, 14, 7, 13, 13, 13);
        due("planned(0)", x.planned(0), 30);
        due("planned(1)", x.planned(1), 0);
        x.rule(0, 1, 3, 2, 50);
        due("plan(0, 30, 10)", x.plan(0, 30, 10), 1000 + 6000);
        due("planned(0)", x.planned(0), 10);
        due("planned(2)", x.planned(2), 20);
        due("plan(0, 200, 100): above what they spare", x.plan(0, 200, 100), -14);
        due("planned(2): of the latest plan that was done", x.planned(2), 20);
        due("plan(0, 100, 100): the third alone", x.plan(0, 100, 100), 30000);
        due("picked(): still", x.picked(), 3);
        x.worth(0, 220);
        x.label();
        x.forget();
        x.pick(1, 1);
        x.pick(0, 1);
        due("plan(1, 30, 10): all as dear", x.plan(1, 30, 10), 6600);
        due("planned(0): the first the least", x.planned(0), 0);
        due("planned(1)", x.planned(1), 30);
        due("planned(2)", x.planned(2), 0);
        x.worth(1, 1);
        due("plan(1, 9, 9): y / 10 is cut", x.plan(1, 9, 9), 9);
        due("plan(1, 9, 3)", x.plan(1, 9, 3), 9);
        x.join(4, 0);
        due("plan(1, 9, 3): one is in a cask", x.plan(1, 9, 3), -9);
        planFromCask();
        planManyPicks();
    }

    private static void planFromCask() {
        BlendCellar x = five();
        x.fill(0, part(1, 1, 1), 30);
        x.fill(2, part(2, 2, 2), 20);
        x.join(4, 0);
        x.join(4, 2);
        x.pick(4, 1);
        x.label();
        x.rule(0, 1, 1, 1, 50);
        due("plan(0, 40, 20): 20 of each member", x.plan(0, 40, 20), 2 * 500 * 40);
        trace(x, "plan of a cask", 8, 5, 7, 15, 15);
        due("planned(0)", x.planned(0), 40);
        x.rule(0, 1, 1, 1, 51);
        due("plan(0, 40, 20)", x.plan(0, 40, 20), -14);
        due("plan(0, 30, 30): drawn as told, from the first first", x.plan(0, 30, 30), 2 * 500 * 30);
        due("amount(4): only in thought", x.amount(4), 50);
    }

    private static void planManyPicks() {
        BlendCellar x = new BlendCellar();
        x.label();
        for (int b = 0; b < 7; b++) {
            x.barrel(STEEL, 1000, 10 - b);
            x.fill(b, part(b, b, b), 100);
            x.pick(b, 1);
        }
        due("plan(0, 12, 1): 7 are picked", x.plan(0, 12, 1), -12);
        x.forget();
        for (int b = 0; b < 6; b++) {
            x.pick(b, 1);
            x.rule(0, 2, 1, b, 25);
        }
        due("plan(0, 12, 1): 3 of each of the cheapest four", x.plan(0, 12, 1), 3 * (5 + 6 + 7 + 8));
        due("planned(1)", x.planned(1), 0);
        due("planned(2)", x.planned(2), 3);
        due("planned(5)", x.planned(5), 3);
    }

    private static void undo() {
        BlendCellar x = five();
        due("undo()", x.undo(), 1);
        due("kindOf(4)", x.kindOf(4), 0);
        due("undo(): only once", x.undo(), -14);
        due("undo() of nothing", new BlendCellar().undo(), -14);
        x.barrel(CASK, 0, 0);
        x.row(0, 0, 2);
        x.undo();
        due("lift(0, 0): the row is gone", x.lift(0, 0), -6);
        x.row(0, 0, 2);
        x.pick(0, 5);
        due("undo(): over a pick", x.undo(), 1);
        due("picked()", x.picked(), 0);
        x.pick(0, 5);
        due("undo(): a pick is nothing to take back", x.undo(), -14);
        due("picked(): a refused undo forgets nothing", x.picked(), 1);
        x.row(0, 0, 2);
        undoMoves(x);
        undoWine(x);
        undoBottling(x);
    }

    private static void undone(BlendCellar x, String call, long answer, long digest) {
        due(call + " was done", x.why(), 0);
        due("undo() of " + call, x.undo(), 1);
        due("digest() behind undo of " + call, x.digest(), digest);
        due("odd() behind undo of " + call, x.odd(), 0);
        due("strays() behind undo of " + call, x.strays(), 0);
        due("undo() once more", x.undo(), -14);
    }

    private static void undoMoves(BlendCellar x) {
        long d = x.digest();
        undone(x, "lay(0, 0, 1)", x.lay(0, 0, 1), d);
        due("at(0, 1)", x.at(0, 1), -1);
        x.lay(0, 0, 1);
        d = x.digest();
        undone(x, "lift(0, 1)", x.lift(0, 1), d);
        due("at(0, 1)", x.at(0, 1), 0);
        undone(x, "join(4, 1)", x.join(4, 1), d);
        x.join(4, 1);
        x.join(4, 2);
        d = x.digest();
        undone(x, "leave(4)", x.leave(4), d);
        due("leave(4)", x.leave(4), 2);
        due("leave(4)", x.leave(4), 1);
        d = x.digest();
        undone(x, "worth(1, 5)", x.worth(1, 5), d);
        undone(x, "barrel(1, 1, 1)", x.barrel(1, 1, 1), d);
    }

    private static void undoWine(BlendCellar x) {
        long d = x.digest();
        undone(x, "fill(0, 9, 100)", x.fill(0, 9, 100), d);
        due("account(9, 0)", x.account(9, 0), 0);
        x.fill(0, 9, 5000);
        x.fill(0, 8, 5000);
        x.fill(1, 9, 3000);
        d = x.digest();
        undone(x, "rack(0, 2, 7)", x.rack(0, 2, 7), d);
        undone(x, "topUp(2, 0)", x.topUp(2, 0), d);
        x.pick(0, 11);
        x.pick(1, 12);
        undone(x, "blend(3)", x.blend(3), d);
        due("picked()", x.picked(), 0);
        undone(x, "breathe(12)", x.breathe(12), d);
        due("account(9, 1)", x.account(9, 1), 0);
        due("month()", x.month(), 0);
        undone(x, "drain(0, 9, 1)", x.drain(0, 9, 1), d);
        due("account(9, 2)", x.account(9, 2), 0);
        undone(x, "wash(0)", x.wash(0), d);
        due("account(9, 3)", x.account(9, 3), 0);
        x.fill(2, 1, 1);
        x.fill(2, 1, 0);
        due("undo(): over a refused act", x.undo(), 1);
        due("digest()", x.digest(), d);
    }

    private static void undoBottling(BlendCellar x) {
        long d = x.digest();
        undone(x, "bottle(0, 2, 9)", x.bottle(0, 2, 9), d);
        due("account(9, 4)", x.account(9, 4), 0);
        due("bottlings()", x.bottlings(), 0);
        due("bottling(0, 0)", x.bottling(0, 0), -1);
        int tries = x.tries();
        x.label();
        x.rule(0, 4, 1, 1, 1);
        due("bottle(0, 2, 9): numbers given stay", x.bottle(0, 2, 9), 2);
        x.undo();
        due("rule: labels stay", x.rule(0, 4, 1, 1, 1), 2);
        due("tries()", x.tries(), tries + 5);
    }

    private static void kindOf() {
        BlendCellar x = five();
        for (int b = 0; b < 5; b++) {
            due("kindOf(" + b + ")", x.kindOf(b), b + 1);
        }
        due("kindOf(5)", x.kindOf(5), 0);
        due("kindOf(-1)", x.kindOf(-1), 0);
        due("kindOf(max)", x.kindOf(Integer.MAX_VALUE), 0);
    }

    private static void where() {
        BlendCellar x = five();
        x.row(19, 0, 60);
        due("where(0)", x.where(0), 0);
        x.lay(0, 19, 59);
        due("where(0)", x.where(0), 1960);
        x.join(4, 1);
        due("where(1)", x.where(1), 10004);
        due("where(5)", x.where(5), -1);
        due("where(min)", x.where(Integer.MIN_VALUE), -1);
    }

    private static void at() {
        BlendCellar x = five();
        x.row(2, 0, 2);
        x.lay(3, 2, 1);
        due("at(2, 1)", x.at(2, 1), 3);
        due("at(2, 0)", x.at(2, 0), -1);
        due("at(2, 2)", x.at(2, 2), -1);
        due("at(2, -1)", x.at(2, -1), -1);
        due("at(3, 0)", x.at(3, 0), -1);
        due("at(20, 0)", x.at(20, 0), -1);
        due("at(-1, 0)", x.at(-1, 0), -1);
    }

    private static void amount() {
        BlendCellar x = five();
        x.fill(0, 1, 5);
        x.fill(0, 2, 6);
        x.fill(2, 2, 7);
        x.join(4, 0);
        x.join(4, 2);
        due("amount(0)", x.amount(0), 11);
        due("amount(4)", x.amount(4), 18);
        due("amount(1)", x.amount(1), 0);
        due("amount(5)", x.amount(5), 0);
        due("amount(-1)", x.amount(-1), 0);
    }

    private static void partOf() {
        BlendCellar x = five();
        x.fill(0, 1, 5);
        x.fill(0, 2, 6);
        x.fill(2, 2, 7);
        x.join(4, 0);
        x.join(4, 2);
        due("part(0, 2)", x.part(0, 2), 6);
        due("part(4, 2)", x.part(4, 2), 13);
        due("part(4, 3)", x.part(4, 3), 0);
        due("part(0, -1)", x.part(0, -1), 0);
        due("part(0, 4096)", x.part(0, 4096), 0);
        due("part(5, 1)", x.part(5, 1), 0);
        due("part(-1, 1)", x.part(-1, 1), 0);
    }

    private static void parts() {
        BlendCellar x = five();
        x.fill(0, 1, 5);
        x.fill(0, 2, 6);
        x.fill(0, 2, 6);
        x.join(4, 0);
        due("parts(0)", x.parts(0), 2);
        due("parts(1)", x.parts(1), 0);
        due("parts(4): its members", x.parts(4), 1);
        due("parts(5)", x.parts(5), 0);
        due("parts(-1)", x.parts(-1), 0);
    }

    private static void account() {
        BlendCellar x = five();
        x.fill(0, 9, 10000);
        x.breathe(1);
        x.drain(0, 3, 1);
        x.drain(0, 4, 2);
        x.bottle(0, 5, 25);
        due("account(9, 0)", x.account(9, 0), 10000);
        due("account(9, 1)", x.account(9, 1), 20);
        due("account(9, 2)", x.account(9, 2), 3);
        due("account(9, 3)", x.account(9, 3), 4);
        due("account(9, 4)", x.account(9, 4), 25);
        x.wash(0);
        due("account(9, 3): washed is spilt", x.account(9, 3), 4 + 9948);
        due("account(9, 5)", x.account(9, 5), 0);
        due("account(9, -1)", x.account(9, -1), 0);
        due("account(8, 0)", x.account(8, 0), 0);
        due("account(-1, 0)", x.account(-1, 0), 0);
        due("account(4096, 0)", x.account(4096, 0), 0);
    }

    private static void odd() {
        BlendCellar x = five();
        for (int i = 0; i < 40; i++) {
            x.fill(i % 4, 97 * i, 100 + i);
            due("odd()", x.odd(), 0);
        }
        x.breathe(12);
        x.rack(0, 3, 777);
        x.topUp(1, 2);
        x.drain(3, 101, 1);
        x.drain(3, 103, 2);
        x.bottle(1, 7, 500);
        x.pick(3, 91);
        x.pick(1, 17);
        x.blend(0);
        x.join(4, 0);
        x.bottle(4, 3, 31);
        x.wash(3);
        due("odd()", x.odd(), 0);
        due("account(0, 0): and something was at stake", x.account(0, 0), 100);
    }

    private static void strays() {
        BlendCellar x = five();
        x.row(0, 0, 3);
        x.lay(0, 0, 2);
        x.join(4, 1);
        x.join(4, 2);
        x.lay(4, 0, 0);
        due("strays()", x.strays(), 0);
        x.leave(4);
        x.lift(0, 2);
        due("strays()", x.strays(), 0);
        x.undo();
        due("strays()", x.strays(), 0);
    }

    private static void month() {
        BlendCellar x = five();
        x.breathe(12);
        x.breathe(0);
        x.breathe(5);
        due("month()", x.month(), 17);
        x.undo();
        due("month()", x.month(), 12);
    }

    private static void bottlings() {
        BlendCellar x = five();
        x.fill(2, 9, 1000);
        due("bottlings()", x.bottlings(), 0);
        x.bottle(2, 3, 100);
        x.bottle(2, 0, 100);
        x.bottle(2, 4, 100);
        due("bottlings()", x.bottlings(), 2);
        x.undo();
        due("bottlings()", x.bottlings(), 1);
    }

    private static void bottling() {
        BlendCellar x = five();
        x.fill(2, 9, 1000);
        x.fill(3, 9, 1000);
        x.bottle(2, 3, 100);
        x.undo();
        x.bottle(3, 3, 100);
        x.bottle(2, 7, 50);
        long[][] want = {{2, 3, 3, 33}, {3, 2, 7, 7}};
        for (int i = 0; i < 2; i++) {
            for (int what = 0; what < 4; what++) {
                due("bottling(" + i + ", " + what + ")", x.bottling(i, what), want[i][what]);
            }
        }
        due("bottling(2, 0)", x.bottling(2, 0), -1);
        due("bottling(-1, 0)", x.bottling(-1, 0), -1);
        due("bottling(0, 4)", x.bottling(0, 4), -1);
        due("bottling(0, -1)", x.bottling(0, -1), -1);
    }

    /** Has done each act that stands in the journal. */
    private static BlendCellar journal() {
        BlendCellar x = five();
        x.fill(0, 9, 1000);
        x.rack(0, 1, 100);
        x.topUp(2, 1);
        x.pick(2, 5);
        x.pick(0, 6);
        x.blend(3);
        x.breathe(1);
        x.bottle(3, 2, 5);
        x.drain(0, 7, 1);
        x.drain(0, 8, 2);
        x.wash(3);
        return x;
    }

    private static void entries() {
        BlendCellar x = journal();
        due("entries()", x.entries(), 10);
        x.wash(99);
        x.worth(0, 1);
        x.row(0, 0, 1);
        due("entries(): of no other acts", x.entries(), 10);
    }

    private static void entry() {
        BlendCellar x = journal();
        long[][] want = {
            {1, -1, 0, 1000}, {2, 0, 1, 100}, {3, 1, 2, 85}, {4, 2, 3, 5}, {4, 0, 3, 6}, {5, -1, -1, 1},
            {6, 3, -1, 4}, {7, 0, -1, 7}, {8, 0, -1, 8}, {9, 3, -1, 7}};
        for (int i = 0; i < want.length; i++) {
            for (int what = 0; what < 4; what++) {
                due("entry(" + i + ", " + what + ")", x.entry(i, what), want[i][what]);
            }
        }
        due("entry(10, 0)", x.entry(10, 0), -1);
        due("entry(-1, 0)", x.entry(-1, 0), -1);
        due("entry(0, 4)", x.entry(0, 4), -1);
        due("entry(0, -1)", x.entry(0, -1), -1);
        x.undo();
        due("entry(9, 0): taken back", x.entry(9, 0), -1);
    }

    private static void tries() {
        BlendCellar x = new BlendCellar();
        x.row(0, 0, 1);
        x.barrel(OAK, 1, 1);
        x.join(0, 0);
        x.leave(0);
        x.lay(0, 0, 0);
        x.lift(0, 0);
        x.worth(0, 0);
        x.fill(0, 0, 1);
        x.rack(0, 0, 1);
        x.topUp(0, 0);
        x.pick(0, 1);
        x.forget();
        x.blend(0);
        x.breathe(1);
        x.bottle(0, 1, 1);
        x.drain(0, 1, 1);
        x.wash(0);
        x.partAt(0, 0);
        x.amountAt(0, 0);
        x.room(0);
        x.label();
        x.rule(0, 0, 0, 0, 0);
        x.judge(0, 0);
        x.plan(0, 1, 1);
        x.undo();
        due("tries(): each of 25 acts is one", x.tries(), 25);
        x.kindOf(0);
        x.where(0);
        x.at(0, 0);
        x.amount(0);
        x.part(0, 0);
        x.digest();
        x.odd();
        x.strays();
        due("tries(): questions are none", x.tries(), 25);
    }

    private static void closed() {
        BlendCellar x = five();
        due("closed()", x.closed(), 1);
        x.fill(99, 1, 1);
        due("closed(): behind a refused act", x.closed(), 1);
        x.judge(0, 0);
        due("closed()", x.closed(), 1);
    }

    private static void why() {
        BlendCellar x = five();
        due("why()", x.why(), 0);
        x.fill(99, 1, 1);
        due("why()", x.why(), 2);
        x.kindOf(3);
        due("why(): questions leave it", x.why(), 2);
        x.forget();
        due("why(): done", x.why(), 0);
        x.undo();
        x.undo();
        due("why()", x.why(), 14);
    }

    private static void which() {
        BlendCellar x = five();
        x.fill(0, 5, 5);
        x.label();
        x.rule(0, 4, 3, 5, 0);
        x.rule(0, 4, 3, 6, 0);
        x.judge(0, 0);
        due("which()", x.which(), 1);
        x.fill(0, 1, 0);
        x.pick(0, 1);
        x.plan(0, 5, 5);
        due("which(): of the latest judge, not of a plan", x.which(), 1);
        x.judge(0, 1);
        due("which()", x.which(), -1);
    }

    private static void traceOf() {
        BlendCellar x = five();
        x.room(3);
        due("trace(-1)", x.trace(-1), 0);
        due("trace(max)", x.trace(Integer.MAX_VALUE), 0);
        x.where(0);
        trace(x, "a question: still the latest act's", 3, 2);
        x.forget();
        trace(x, "forget");
        for (int i = 0; i < 3; i++) {
            x.join(4, i);
        }
        x.room(4);
        trace(x, "room of a cask", 4, 1, 1, 2);
        x.breathe(1);
        trace(x, "breathe", 10, 11, 10, 9, 12, 9);
    }

    private static void picked() {
        BlendCellar x = five();
        x.pick(0, 1);
        x.pick(3, 1);
        due("picked()", x.picked(), 2);
        x.pick(3, 1);
        due("picked()", x.picked(), 2);
        x.undo();
        due("picked()", x.picked(), 0);
    }

    private static void planned() {
        BlendCellar x = five();
        x.fill(2, 1, 100);
        x.fill(3, 1, 100);
        x.label();
        x.pick(2, 1);
        x.pick(3, 1);
        x.plan(0, 120, 20);
        due("planned(0)", x.planned(0), 100);
        due("planned(1)", x.planned(1), 20);
        due("planned(2)", x.planned(2), 0);
        due("planned(-1)", x.planned(-1), 0);
        x.forget();
        x.pick(3, 1);
        x.undo();
        due("planned(0): stays behind forget and undo", x.planned(0), 100);
        x.pick(2, 1);
        x.plan(0, 7, 7);
        due("planned(0)", x.planned(0), 7);
        due("planned(1): of the latest plan alone", x.planned(1), 0);
    }

    private static void digest() {
        BlendCellar x = new BlendCellar();
        x.barrel(STEEL, 1000, 77);
        x.barrel(CASK, 55, 88);
        x.fill(0, 300, 6);
        x.fill(0, 20, 9);
        x.join(1, 0);
        x.row(3, 5, 2);
        x.lay(1, 3, 1);
        x.breathe(4);
        long[] numbers = {2, 3, 1000, 77, 10001, 2, 20, 9, 300, 6, 5, 0, 88, 302, 1, 0, 4, 3};
        long d = 7;
        for (long number : numbers) {
            d = d * 31 + number;
        }
        due("digest()", x.digest(), d);
        due("digest() again", x.digest(), d);
    }

    private static final Runnable[] PROMISES = {
        PromisesTest::newObject, PromisesTest::row, PromisesTest::barrel, PromisesTest::join, PromisesTest::leave,
        PromisesTest::lay, PromisesTest::lift, PromisesTest::worth, PromisesTest::fill, PromisesTest::rack,
        PromisesTest::topUp, PromisesTest::pick, PromisesTest::forget, PromisesTest::blend, PromisesTest::breathe,
        PromisesTest::bottle, PromisesTest::drain, PromisesTest::wash, PromisesTest::partAt, PromisesTest::amountAt,
        PromisesTest::room, PromisesTest::label, PromisesTest::rule, PromisesTest::judge, PromisesTest::plan,
        PromisesTest::undo, PromisesTest::kindOf, PromisesTest::where, PromisesTest::at, PromisesTest::amount,
        PromisesTest::partOf, PromisesTest::parts, PromisesTest::account, PromisesTest::odd, PromisesTest::strays,
        PromisesTest::month, PromisesTest::bottlings, PromisesTest::bottling, PromisesTest::entries,
        PromisesTest::entry, PromisesTest::tries, PromisesTest::closed, PromisesTest::why, PromisesTest::which,
        PromisesTest::traceOf, PromisesTest::picked, PromisesTest::planned, PromisesTest::digest};

    public static void main(String[] args) {
        for (Runnable test : PROMISES) {
            promise++;
            test.run();
        }
        System.out.println(promise + " promises, " + asked + " answers asked");
        System.out.println(wrong == 0 ? "all answers are as due" : wrong + " answers are not as due");
        if (wrong != 0) {
            System.exit(1);
        }
    }
}
