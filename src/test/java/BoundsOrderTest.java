/** Every boundary that promises 9 to 11 and the terms of ORDER and TRAVEL name, a sentence each. */
public final class BoundsOrderTest {
    private static final int NONE = DrillArchive.NONE;
    private static final int[] NO_TOOLS_OF_THREE = {-1, 3, 9, 10, Integer.MAX_VALUE, Integer.MIN_VALUE};

    public static void main(String[] args) {
        counts();
        arguments();
        ways();
        leastTravel();
        nearest();
        Check.end("BoundsOrderTest");
    }

    /** Holes of tool 0 at x, y in turn. */
    private static DrillArchive holes(long... places) {
        DrillArchive a = new DrillArchive();
        a.tool(1, true);
        for (int i = 0; i + 1 < places.length; i += 2) {
            a.hole(0, places[i], places[i + 1], 0, 7);
        }
        return a;
    }

    /** Slots of tool 0 from x, y to x2, y2 in turn. */
    private static DrillArchive slots(long... places) {
        DrillArchive a = new DrillArchive();
        a.tool(1, true);
        for (int i = 0; i + 3 < places.length; i += 4) {
            a.slot(0, places[i], places[i + 1], places[i + 2], places[i + 3]);
        }
        return a;
    }

    private static void ordered(DrillArchive a, long travel, int... row) {
        for (int k = 0; k < row.length; k++) {
            Check.due("order(0, " + k + ")", a.order(0, k), row[k]);
        }
        Check.due("behind the row", a.order(0, row.length), NONE);
        Check.due("travel(0)", a.travel(0), travel);
        Check.due("proved(0)", a.proved(0), row.length <= 8);
    }

    private static void counts() {
        Check.test("9: a TOOL without HITS has no ORDER", () -> {
            Check.due("order(0, 0)", holes().order(0, 0), NONE);
            Check.due("order(0, -1)", holes().order(0, -1), NONE);
        });
        Check.test("10: 0 without HITS", () -> Check.due("travel(0)", holes().travel(0), 0));
        Check.test("11: a TOOL without HITS is proved", () -> Check.due("proved(0)", holes().proved(0), true));
        Check.test("10: a TOOL whose HITS are all at 0, 0 has the TRAVEL 0", () -> ordered(holes(0, 0, 0, 0), 0, 0, 1));
        Check.test("9, 10, 11: one HIT", () -> ordered(holes(-3, 5), 5, 0));
        Check.test("9, 10, 11: two HITS", () -> ordered(holes(9, 0, 4, 0), 9, 1, 0));
        Check.test("11: seven, eight, nine, sixty HITS", () -> {
            DrillArchive a = holes();
            for (int count = 1; count <= 60; count++) {
                a.hole(0, count, 0, 0, 0);
                Check.due("proved with " + count, a.proved(0), count <= 8);
            }
        });
        Check.test("11: the HITS of the TOOL alone count", () -> {
            DrillArchive a = holes();
            a.tool(2, true);
            for (int k = 0; k < 16; k++) {
                a.hole(k % 2, k, 0, 0, 0);
            }
            Check.due("proved(0), eight each", a.proved(0), true);
            Check.due("proved(1), eight each", a.proved(1), true);
            a.hole(1, 0, 0, 0, 0);
            Check.due("proved(0), the other has nine", a.proved(0), true);
            Check.due("proved(1), with nine", a.proved(1), false);
        });
        Check.test("9: sixty HITS, the last of the row", () -> {
            DrillArchive a = holes();
            for (int k = 0; k < 60; k++) {
                a.hole(0, 60 - k, 0, 0, 0);
            }
            Check.due("the first", a.order(0, 0), 59);
            Check.due("the last", a.order(0, 59), 0);
            Check.due("behind it", a.order(0, 60), NONE);
            Check.due("travel", a.travel(0), 60);
        });
        Check.test("9: a HIT more changes a row that was asked for", BoundsOrderTest::oneMore);
        Check.test("9: TOOLS that are asked for in turn keep their rows", BoundsOrderTest::toolsInTurn);
        Check.test("9: a TOOL with three HITS behind one with eight", BoundsOrderTest::threeBehindEight);
    }

    private static void oneMore() {
        DrillArchive a = holes(9, 0);
        ordered(a, 9, 0);
        a.hole(0, -1, 0, 0, 7);
        ordered(a, 11, 1, 0);
        a.slot(0, 8, 0, -2, 0);
        ordered(a, 11, 0, 2, 1);
    }

    /** With eight, three, nine and ten hits, so that each way to find a row comes behind each other one. */
    private static void toolsInTurn() {
        int[] counts = {8, 3, 9, 10};
        int[] turns = {0, 1, 2, 3, 1, 0, 3, 2};
        DrillArchive a = scattered(counts);
        for (int tool : turns) {
            StringBuilder row = new StringBuilder();
            for (int k = 0; k < counts[tool]; k++) {
                row.append(a.order(tool, k)).append(' ');
            }
            PlainOrder plain = new PlainOrder(scattered(counts), tool);
            String want = counts[tool] <= 8 ? plain.least() : plain.nearest();
            Check.due("tool " + tool, row.append(a.travel(tool)).toString(), want);
        }
    }

    /** Behind the first three hits of the eight the way on differs much by the last of them: not so for the three. */
    private static void threeBehindEight() {
        DrillArchive a = holes(0, 0, 1_000, 0, 2_000, 0, 0, 0, 0, 0, 0, 0, 0, 0, 0, 0);
        ordered(a, 2_000, 0, 3, 4, 5, 6, 7, 1, 2);
        a.tool(2, true);
        for (int x = 1; x <= 3; x++) {
            a.hole(1, x, 0, 0, 0);
        }
        for (int k = 0; k < 3; k++) {
            Check.due("order(1, " + k + ")", a.order(1, k), 8 + k);
        }
        Check.due("travel(1)", a.travel(1), 3);
    }

    private static DrillArchive scattered(int[] counts) {
        DrillArchive a = new DrillArchive();
        Made.tools(a, counts.length);
        for (int k = 0; k < 10; k++) {
            for (int tool = 0; tool < counts.length; tool++) {
                if (k < counts[tool]) {
                    a.hole(tool, (k * 37 + tool * 11) % 23 - 11, (k * 17 + tool * 5) % 19 - 9, 0, 0);
                }
            }
        }
        return a;
    }

    private static void arguments() {
        Check.test("9: no such TOOL, k is one or not", () -> {
            int[] ks = {0, -1, 99};
            for (int tool : NO_TOOLS_OF_THREE) {
                for (int k : ks) {
                    Check.refused("order(" + tool + ", " + k + ")", Made::some, a -> a.order(tool, k), Check.INDEX);
                }
            }
        });
        Check.test("10: no such TOOL", () -> {
            for (int tool : NO_TOOLS_OF_THREE) {
                Check.refused("travel(" + tool + ")", Made::some, a -> a.travel(tool), Check.INDEX);
            }
        });
        Check.test("11: no such TOOL", () -> {
            for (int tool : NO_TOOLS_OF_THREE) {
                Check.refused("proved(" + tool + ")", Made::some, a -> a.proved(tool) ? 1 : 0, Check.INDEX);
            }
        });
        Check.test("9, 10, 11: the tenth TOOL, no eleventh", () -> {
            DrillArchive a = new DrillArchive();
            Made.tools(a, 10);
            a.hole(9, 7, 3, 0, 0);
            Check.due("order(9, 0)", a.order(9, 0), 0);
            Check.due("travel(9)", a.travel(9), 7);
            Check.due("proved(9)", a.proved(9), true);
            Check.dueThrow("order(10, 0)", Check.INDEX, () -> a.order(10, 0));
            Check.dueThrow("travel(10)", Check.INDEX, () -> a.travel(10));
            Check.dueThrow("proved(10)", Check.INDEX, () -> a.proved(10) ? 1 : 0);
        });
        Check.test("9: k below 0", () -> {
            DrillArchive a = holes(9, 0, 4, 0);
            Check.due("order(0, -1)", a.order(0, -1), NONE);
            Check.due("order(0, far below)", a.order(0, Integer.MIN_VALUE), NONE);
        });
        Check.test("9: k past the end", () -> {
            DrillArchive a = holes(9, 0, 4, 0);
            Check.due("order(0, 2)", a.order(0, 2), NONE);
            Check.due("order(0, 60)", a.order(0, 60), NONE);
            Check.due("order(0, far past)", a.order(0, Integer.MAX_VALUE), NONE);
        });
        Check.test("9: the HITS' numbers are those of all HITS", () -> {
            DrillArchive a = holes();
            a.tool(2, true);
            a.hole(1, 1, 1, 0, 0);
            a.hole(0, 9, 0, 0, 0);
            a.hole(1, 2, 2, 0, 0);
            a.hole(0, 4, 0, 0, 0);
            ordered(a, 9, 3, 1);
        });
    }

    private static void ways() {
        Check.test("TRAVEL: the greater one of the ways along x and y", () -> {
            ordered(holes(3, 5), 5, 0);
            ordered(holes(5, 3), 5, 0);
            ordered(holes(-5, 3), 5, 0);
            ordered(holes(3, -5), 5, 0);
            ordered(holes(4, 4), 4, 0);
        });
        Check.test("TRAVEL: a slot begins at its first place and ends at its other one", () -> {
            ordered(slots(3, 0, 100, 0), 3, 0);
            ordered(slots(3, 0, 100, 0, 101, 0, 0, 0), 4, 0, 1);
            ordered(slots(101, 0, 0, 0, 3, 0, 100, 0), 4, 1, 0);
        });
        Check.test("TRAVEL: between the farthest places", () ->
                ordered(slots(1_000_000, 1_000_000, -1_000_000, -1_000_000), 1_000_000, 0));
        Check.test("TRAVEL: sixty HITS from one side to the other", () -> {
            DrillArchive a = holes();
            for (int k = 0; k < 60; k++) {
                a.slot(0, 1_000_000, 1_000_000, -1_000_000, -1_000_000);
            }
            Check.due("travel(0)", a.travel(0), 1_000_000L + 59 * 2_000_000L);
        });
        Check.test("TRAVEL: eight HITS from one side to the other", () -> {
            DrillArchive a = holes();
            for (int k = 0; k < 8; k++) {
                a.slot(0, 1_000_000, 1_000_000, -1_000_000, -1_000_000);
            }
            ordered(a, 1_000_000 + 7 * 2_000_000, 0, 1, 2, 3, 4, 5, 6, 7);
        });
        Check.test("TRAVEL: HITS of all layers, in one row", () -> {
            DrillArchive a = holes();
            a.hole(0, 3, 0, 0, 0);
            a.hole(0, 2, 0, 7, 7);
            a.hole(0, 1, 0, 3, 4);
            ordered(a, 3, 2, 1, 0);
        });
    }

    private static void leastTravel() {
        Check.test("ORDER, up to eight: the least TRAVEL, not the nearest first", () ->
                ordered(holes(1, 0, -2, 0, 40, 0), 44, 1, 0, 2));
        Check.test("ORDER, up to eight: of the same TRAVEL the numbers that come first", () -> {
            ordered(holes(5, 0, -5, 0), 15, 0, 1);
            ordered(holes(-5, 0, 5, 0), 15, 0, 1);
            ordered(holes(7, 7, 7, 7, 7, 7), 7, 0, 1, 2);
        });
        Check.test("ORDER, up to eight: place by place, the first place before the second", () -> {
            ordered(holes(5, 5, 5, -5, 5, 0), 15, 0, 2, 1);
            ordered(holes(5, 0, 5, -5, 5, 5), 15, 1, 0, 2);
        });
        Check.test("ORDER, up to eight: eight at one place, rising", () ->
                ordered(holes(7, 7, 7, 7, 7, 7, 7, 7, 7, 7, 7, 7, 7, 7, 7, 7), 7, 0, 1, 2, 3, 4, 5, 6, 7));
        Check.test("ORDER, up to eight: eight are the least still", () ->
                ordered(holes(1, 0, -2, 0, 4, 0, -8, 0, 16, 0, -32, 0, 64, 0, -128, 0), 256, 0, 2, 4, 6, 1, 3, 5, 7));
        Check.test("ORDER, up to eight: eight in a row, falling", () ->
                ordered(holes(8, 0, 7, 0, 6, 0, 5, 0, 4, 0, 3, 0, 2, 0, 1, 0), 8, 7, 6, 5, 4, 3, 2, 1, 0));
        Check.test("ORDER, up to eight: eight slots, each leading to the next", () -> ordered(
                slots(70, 0, 80, 0, 0, 0, 10, 0, 60, 0, 70, 0, 10, 0, 20, 0, 50, 0, 60, 0, 20, 0, 30, 0, 40, 0, 50, 0,
                        30, 0, 40, 0), 0, 1, 3, 5, 7, 6, 4, 2, 0));
    }

    private static void nearest() {
        Check.test("ORDER, nine: always the nearest one, from 0, 0 on", () -> ordered(
                holes(1, 0, -2, 0, 4, 0, -8, 0, 16, 0, -32, 0, 64, 0, -128, 0, 256, 0), 766, 0, 1, 2, 3, 4, 5, 6, 7, 8));
        Check.test("ORDER, nine: of several the lowest", () -> {
            ordered(holes(7, 7, 7, 7, 7, 7, 7, 7, 7, 7, 7, 7, 7, 7, 7, 7, 7, 7), 7, 0, 1, 2, 3, 4, 5, 6, 7, 8);
            ordered(holes(50, 0, 3, 0, -3, 0, 3, 0, -3, 0, 60, 0, 70, 0, 80, 0, 90, 0), 102, 1, 3, 2, 4, 0, 5, 6, 7, 8);
            ordered(holes(50, 0, -3, 0, 3, 0, -3, 0, 3, 0, 60, 0, 70, 0, 80, 0, 90, 0), 96, 1, 3, 2, 4, 0, 5, 6, 7, 8);
        });
        Check.test("ORDER, nine: nearest by the greater one of the ways along x and y", () -> ordered(
                holes(6, 0, 5, 5, 0, 7, 100, 0, 200, 0, 300, 0, 400, 0, 500, 0, 600, 0), 617, 1, 0, 2, 3, 4, 5, 6, 7, 8));
        Check.test("ORDER, nine: where a slot begins is nearest, where it ends one goes on", () -> ordered(
                slots(9, 0, 1, 0, 2, 0, 50, 0, 51, 0, 8, 0, 100, 0, 200, 0, 201, 0, 300, 0, 301, 0, 400, 0, 401, 0, 500, 0,
                        501, 0, 600, 0, 601, 0, 700, 0), 2 + 1 + 1 + 99 + 5, 1, 2, 0, 3, 4, 5, 6, 7, 8));
        Check.test("ORDER: the eighth and the ninth HIT change the row", () -> {
            DrillArchive a = holes(1, 0, -2, 0, 40, 0);
            ordered(a, 44, 1, 0, 2);
            for (int k = 3; k < 8; k++) {
                a.hole(0, 40, 0, 0, 0);
            }
            ordered(a, 44, 1, 0, 2, 3, 4, 5, 6, 7);
            a.hole(0, 40, 0, 0, 0);
            ordered(a, 1 + 3 + 42, 0, 1, 2, 3, 4, 5, 6, 7, 8);
            a.hole(0, -2, 0, 0, 0);
            ordered(a, 1 + 3 + 42, 0, 1, 9, 2, 3, 4, 5, 6, 7, 8);
        });
    }
}
