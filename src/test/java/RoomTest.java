import java.lang.management.ManagementFactory;
import java.util.function.BiConsumer;

/**
 * All calls of one run live in one room: some 600,000 objects and arrays, 7.3 million fields and
 * elements. An object takes 16 bytes or more and an element of the class's arrays 4, so what takes
 * less than MOST_BYTES is far within both.
 */
public final class RoomTest {
    private static final long MOST_BYTES = 2000000;
    private static final int CALLS = 512;
    private static int wrong = 0;

    private RoomTest() {
    }

    private static long bytesMade() {
        return ((com.sun.management.ThreadMXBean) ManagementFactory.getThreadMXBean()).getCurrentThreadAllocatedBytes();
    }

    private static long bytesOf(BiConsumer<BlendCellar, Integer> call) {
        long before = bytesMade();
        BlendCellar x = new BlendCellar();
        for (int i = 0; i < CALLS; i++) {
            call.accept(x, i);
        }
        return bytesMade() - before;
    }

    /** Runs twice: the first time the machine loads classes, which is not the run's. */
    private static void check(String what, BiConsumer<BlendCellar, Integer> call) {
        bytesOf(call);
        long bytes = bytesOf(call);
        System.out.println(what + ": " + bytes + " bytes");
        if (bytes > MOST_BYTES) {
            wrong++;
            System.out.println(what + ": more than " + MOST_BYTES);
        }
    }

    private static void rowOrUndo(BlendCellar x, int i) {
        if (i % 2 == 0) {
            x.row(0, 6, 60);
        } else {
            x.undo();
        }
    }

    private static void labelOrRule(BlendCellar x, int i) {
        if (i < 40) {
            x.label();
        } else {
            x.rule(i % 40, 1, 1, 1, 1);
        }
    }

    private static void makeAndFill(BlendCellar x, int i) {
        if (i % 2 == 0) {
            x.barrel(1 + i / 2 % 4, 1000000000, 1000000);
        } else {
            x.fill(i / 2, i % 4096, 500000000);
        }
    }

    private static void fillManyParts(BlendCellar x, int i) {
        if (i % 61 == 0) {
            x.barrel(2, 1000000000, 1);
        } else {
            x.fill(i / 61, 8 * i % 4096, 1000000);
        }
    }

    private static void breatheMany(BlendCellar x, int i) {
        if (i < 300) {
            makeAndFill(x, i);
        } else {
            x.breathe(12);
        }
    }

    private static void rackWide(BlendCellar x, int i) {
        if (i < 62) {
            fillManyParts(x, i);
        } else {
            x.rack(i % 2, 1 - i % 2, 1 + i % 1000);
        }
    }

    private static void blendMany(BlendCellar x, int i) {
        if (i < 9) {
            x.barrel(3, 1000000000, 1);
        } else if (i < 17) {
            x.fill(i - 9, i, 100000000);
        } else if (i % 9 < 8) {
            x.pick(i % 9, 1);
        } else {
            x.blend(8);
        }
    }

    private static void planDearest(BlendCellar x, int i) {
        if (i < 6) {
            x.barrel(3, 1000000, 1 + i);
        } else if (i < 126) {
            x.fill(i % 6, 31 * i % 4096, 1000);
        } else if (i < 132) {
            x.pick(i % 6, 1);
        } else if (i == 132) {
            x.label();
        } else if (i < 143) {
            x.rule(0, 3, 1 + i % 3, i % 16, 0);
        } else if (i < 152) {
            x.rule(0, 6, 0, 0, 0);
        } else {
            x.plan(0, 12000, 1000);
        }
    }

    private static void askAll(BlendCellar x, int i) {
        if (i < 300) {
            makeAndFill(x, i);
        } else {
            switch (i % 4) {
                case 0 -> x.odd();
                case 1 -> x.strays();
                case 2 -> x.digest();
                default -> x.undo();
            }
        }
    }

    public static void main(String[] args) {
        check("barrels", (x, i) -> x.barrel(1 + i % 5, 1000000000, 0));
        check("rows, built and taken back", RoomTest::rowOrUndo);
        check("labels and rules", RoomTest::labelOrRule);
        check("barrels with wine", RoomTest::makeAndFill);
        check("wine of many parts", RoomTest::fillManyParts);
        check("months", RoomTest::breatheMany);
        check("racking of many parts", RoomTest::rackWide);
        check("blends of eight", RoomTest::blendMany);
        check("plans", RoomTest::planDearest);
        check("questions and undo", RoomTest::askAll);
        System.out.println(wrong == 0 ? "all runs keep to the room" : wrong + " runs take too much room");
        if (wrong != 0) {
            System.exit(1);
        }
    }
}
