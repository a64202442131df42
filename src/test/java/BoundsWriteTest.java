import java.util.function.Consumer;

/** Every boundary that promise 5 and the TEXT's terms name, a sentence each: write. */
public final class BoundsWriteTest {
    private static final int NONE = DrillArchive.NONE;

    public static void main(String[] args) {
        places();
        layers();
        texts();
        Check.end("BoundsWriteTest");
    }

    private static void places() {
        Check.test("5: i below 0", () -> {
            DrillArchive a = new DrillArchive();
            Made.some(a);
            Check.dueThrow("write(1, -1)", Check.INDEX, () -> a.write(1, -1));
            Check.dueThrow("write(1, far below 0)", Check.INDEX, () -> a.write(1, Integer.MIN_VALUE));
            Check.dueThrow("write(10, -1)", Check.INDEX, () -> a.write(10, -1));
        });
        Check.test("5: the first character", () -> Check.due("write(7, 0)", new DrillArchive().write(7, 0), 'M'));
        Check.test("5: the last character is a line feed", () -> {
            DrillArchive a = new DrillArchive();
            Check.due("ahead of the last", a.write(7, 13), '0');
            Check.due("the last", a.write(7, 14), 10);
        });
        Check.test("5: NONE just behind the last character", () ->
                Check.due("write(7, 15)", new DrillArchive().write(7, 15), NONE));
        Check.test("5: NONE far behind it", () -> {
            DrillArchive a = new DrillArchive();
            Check.due("write(7, 16)", a.write(7, 16), NONE);
            Check.due("write(7, 2600)", a.write(7, 2_600), NONE);
            Check.due("write(7, far behind)", a.write(7, Integer.MAX_VALUE), NONE);
        });
        Check.test("5: NONE behind a TEXT that was longer before", BoundsWriteTest::shorterAgain);
        Check.test("5: a TEXT that was asked for changes with TOOLS and HITS", BoundsWriteTest::changes);
        Check.test("5: the longest TEXT, up to its last character", BoundsWriteTest::longest);
    }

    private static void shorterAgain() {
        DrillArchive a = new DrillArchive();
        a.tool(10_000, true);
        a.hole(0, 7, 7, 1, 2);
        Check.due("longer", a.write(12, 15 + 10 + 3 + 5 - 1), 10);
        Check.due("of other layers", a.write(13, 15 + 10 - 1), 10);
        Check.due("behind it", a.write(13, 15 + 10), NONE);
        a.clear();
        Check.due("of no tools", a.write(13, 14), 10);
        Check.due("behind that", a.write(13, 15), NONE);
    }

    private static void changes() {
        DrillArchive a = new DrillArchive();
        Check.due("at first", Check.written(a, 7), "M48\nL0,7\n%\nM30\n");
        a.tool(1, true);
        Check.due("a tool", Check.written(a, 7), "M48\nL0,7\nT0C1P\n%\nM30\n");
        a.hole(0, 1, 1, 0, 7);
        Check.due("a hole", Check.written(a, 7), "M48\nL0,7\nT0C1P\n%\nT0\nX1Y1\nM30\n");
        a.slot(0, 0, 0, 2, 2);
        Check.due("a slot", Check.written(a, 7), "M48\nL0,7\nT0C1P\n%\nT0\nX0Y0G85X2Y2\nX1Y1\nM30\n");
        Made.put(a, "M48\nL0,7\nT0C3N\n%\nM30\n");
        a.read();
        Check.due("a text read", Check.written(a, 7), "M48\nL0,7\nT0C3N\n%\nM30\n");
        a.clear();
        Check.due("cleared", Check.written(a, 7), "M48\nL0,7\n%\nM30\n");
    }

    private static void longest() {
        StringBuilder want = new StringBuilder("M48\nL0,7\n");
        for (int tool = 0; tool < 10; tool++) {
            want.append("T").append(tool).append("C10000N\n");
        }
        want.append("%\n");
        for (int tool = 0; tool < 10; tool++) {
            want.append("T").append(tool).append("\n");
            want.append("X-1000000Y-1000000G85X-1000000Y-999999\n".repeat(6));
        }
        want.append("M30\n");
        for (int first = 0; first <= want.length(); first += 400) {
            DrillArchive a = new DrillArchive();
            for (int tool = 0; tool < 10; tool++) {
                a.tool(10_000, false);
            }
            for (int k = 0; k < 60; k++) {
                a.slot(k / 6, -1_000_000, -1_000_000, -1_000_000, -999_999);
            }
            for (int i = first; i < first + 400; i++) {
                Check.due("write(7, " + i + ")", a.write(7, i), i < want.length() ? want.charAt(i) : NONE);
            }
        }
    }

    private static void layers() {
        Check.test("5: layers / 10 to layers modulo 10; no layers, or from above to", () -> {
            for (int l = -120; l <= 120; l++) {
                int layers = l;
                int from = layers / 10;
                int to = layers % 10;
                boolean right = layers >= 0 && from <= 7 && to <= 7 && from <= to;
                DrillArchive a = new DrillArchive();
                Check.due("write(" + layers + ", 5)", Check.answer(() -> a.write(layers, 5)),
                        right ? Integer.toString('0' + from) : Check.INDEX);
                Check.due("write(" + layers + ", 7)", Check.answer(() -> a.write(layers, 7)),
                        right ? Integer.toString('0' + to) : Check.INDEX);
            }
        });
        Check.test("5: the first layers", () -> Check.due("0, 0", texted(a -> { }, 0), "M48\nL0,0\n%\nM30\n"));
        Check.test("5: the last layers", () -> Check.due("7, 7", texted(a -> { }, 77), "M48\nL7,7\n%\nM30\n"));
        Check.test("5: to a layer that is none", () -> noLayers(8, 9, 18, 79));
        Check.test("5: from a layer that is none", () -> noLayers(80, 87, 88, 89, 98));
        Check.test("5: from above to", () -> noLayers(10, 21, 32, 43, 54, 65, 76, 70));
        Check.test("5: below 0", () -> noLayers(-1, -7, -9, -10, -11, -12, -77, Integer.MIN_VALUE));
        Check.test("5: far above", () -> noLayers(100, 107, 777, 1_000_000_007, Integer.MAX_VALUE));
        Check.test("5: HITS of just these LAYERS", BoundsWriteTest::justTheseLayers);
        Check.test("5: LAYERS that are asked for in turn", () -> {
            DrillArchive a = new DrillArchive();
            int[] turns = {7, 17, 77, 7, 0, 7, 1, 11, 1};
            for (int layers : turns) {
                Check.due("from, of " + layers, a.write(layers, 5), '0' + layers / 10);
                Check.due("to, of " + layers, a.write(layers, 7), '0' + layers % 10);
            }
        });
    }

    private static void noLayers(int... none) {
        int[] places = {0, -1, 15, Integer.MAX_VALUE};
        for (int layers : none) {
            for (int i : places) {
                DrillArchive a = new DrillArchive();
                Check.dueThrow("write(" + layers + ", " + i + ")", Check.INDEX, () -> a.write(layers, i));
            }
        }
    }

    private static void justTheseLayers() {
        for (int from = 0; from < 8; from++) {
            for (int to = from; to < 8; to++) {
                String want = "M48\nL" + from + "," + to + "\nT0C1P\n%\nT0\nX" + (10 * from + to) + "Y0\nM30\n";
                Check.due("of " + from + ", " + to, texted(BoundsWriteTest::holeOfAllLayers, 10 * from + to), want);
            }
        }
    }

    private static void holeOfAllLayers(DrillArchive a) {
        a.tool(1, true);
        for (int from = 0; from < 8; from++) {
            for (int to = from; to < 8; to++) {
                a.hole(0, 10 * from + to, 0, from, to);
            }
        }
    }

    private static String texted(Consumer<DrillArchive> made, int layers) {
        DrillArchive a = new DrillArchive();
        made.accept(a);
        return Check.written(a, layers);
    }

    private static void texts() {
        Check.test("5: without TOOLS", () -> Check.due("text", texted(a -> { }, 34), "M48\nL3,4\n%\nM30\n"));
        Check.test("5: TOOLS without HITS are told, and have no T line behind %", () -> Check.due("text",
                texted(a -> Made.tools(a, 2), 34), "M48\nL3,4\nT0C10P\nT1C11N\n%\nM30\n"));
        Check.test("5: a TOOL whose HITS are of other LAYERS has no T line behind %", () -> Check.due("text",
                texted(Made::some, 12), "M48\nL1,2\nT0C300P\nT1C50N\nT2C1P\n%\nT1\nX3Y0\nM30\n"));
        Check.test("5: ten TOOLS, the last with HITS", () -> Check.due("text", texted(a -> {
            Made.tools(a, 10);
            a.hole(9, 1, 1, 0, 0);
        }, 0), "M48\nL0,0\nT0C10P\nT1C11N\nT2C12P\nT3C13N\nT4C14P\nT5C15N\nT6C16P\nT7C17N\nT8C18P\nT9C19N\n%\n"
                + "T9\nX1Y1\nM30\n"));
        Check.test("5: the least and the largest diameter", () -> Check.due("text", texted(a -> {
            a.tool(1, true);
            a.tool(10_000, false);
        }, 0), "M48\nL0,0\nT0C1P\nT1C10000N\n%\nM30\n"));
        Check.test("5: 0 is written as 0", () -> Check.due("text", hole(0, 0), "X0Y0"));
        Check.test("5: a - ahead when below 0, of x and of y", () -> {
            Check.due("text", hole(-1, 1), "X-1Y1");
            Check.due("text", hole(1, -1), "X1Y-1");
        });
        Check.test("5: the farthest places", () -> {
            Check.due("text", hole(1_000_000, -1_000_000), "X1000000Y-1000000");
            Check.due("text", hole(-1_000_000, 1_000_000), "X-1000000Y1000000");
        });
        Check.test("5: no leading zeros, and zeros behind", BoundsWriteTest::zeros);
        Check.test("5: a slot also has its other place", () -> {
            Check.due("text", slot(0, 0, 0, -1), "X0Y0G85X0Y-1");
            Check.due("text", slot(-10, 200, 3_000, -40_000), "X-10Y200G85X3000Y-40000");
        });
        Check.test("5: holes of layers 0 to 7 stand beside slots", () -> Check.due("text", texted(a -> {
            a.tool(1, true);
            a.slot(0, 5, 0, 9, 0);
            a.hole(0, 4, 0, 0, 7);
        }, 7), "M48\nL0,7\nT0C1P\n%\nT0\nX4Y0\nX5Y0G85X9Y0\nM30\n"));
        Check.test("5: TOOLS rising, HITS in the TOOL's ORDER", () -> Check.due("text", texted(a -> {
            Made.tools(a, 2);
            a.hole(1, 9, 0, 0, 0);
            a.hole(0, 8, 0, 0, 0);
            a.hole(1, 3, 0, 0, 0);
            a.hole(0, 2, 0, 0, 0);
        }, 0), "M48\nL0,0\nT0C10P\nT1C11N\n%\nT0\nX2Y0\nX8Y0\nT1\nX3Y0\nX9Y0\nM30\n"));
        Check.test("5: the ORDER of eight, and of nine", BoundsWriteTest::eightAndNine);
        Check.test("5: the ORDER is that of all the TOOL's HITS", BoundsWriteTest::orderOfAllHits);
    }

    private static String hole(long x, long y) {
        return hitLine(a -> a.hole(0, x, y, 0, 7));
    }

    private static String slot(long x, long y, long x2, long y2) {
        return hitLine(a -> a.slot(0, x, y, x2, y2));
    }

    private static String hitLine(Consumer<DrillArchive> hit) {
        String text = texted(a -> {
            a.tool(1, true);
            hit.accept(a);
        }, 7);
        String head = "M48\nL0,7\nT0C1P\n%\nT0\n";
        String foot = "\nM30\n";
        boolean framed = text.startsWith(head) && text.endsWith(foot);
        return framed ? text.substring(head.length(), text.length() - foot.length()) : text;
    }

    private static void zeros() {
        long[] places = {1, 9, 10, 11, 99, 100, 101, 999, 1_000, 1_001, 9_999, 10_000, 10_001, 99_999, 100_000, 100_001,
            999_999, 1_000_000};
        for (long place : places) {
            Check.due("text", hole(place, -place), "X" + place + "Y-" + place);
        }
    }

    private static void eightAndNine() {
        int[] xs = {1, -2, 4, -8, 16, -32, 64, -128};
        String head = "M48\nL0,0\nT0C1P\n%\nT0\n";
        Check.due("eight", texted(a -> row(a, xs), 0),
                head + "X1Y0\nX4Y0\nX16Y0\nX64Y0\nX-2Y0\nX-8Y0\nX-32Y0\nX-128Y0\nM30\n");
        Check.due("nine", texted(a -> {
            row(a, xs);
            a.hole(0, 256, 0, 0, 0);
        }, 0), head + "X1Y0\nX-2Y0\nX4Y0\nX-8Y0\nX16Y0\nX-32Y0\nX64Y0\nX-128Y0\nX256Y0\nM30\n");
    }

    private static void row(DrillArchive a, int[] xs) {
        a.tool(1, true);
        for (int x : xs) {
            a.hole(0, x, 0, 0, 0);
        }
    }

    /** The holes at -4 and -40 are of other layers: without them the row would begin at -2. */
    private static void orderOfAllHits() {
        DrillArchive a = new DrillArchive();
        a.tool(1, true);
        a.hole(0, 3, 0, 0, 0);
        a.hole(0, -2, 0, 0, 0);
        a.hole(0, 5, 0, 0, 0);
        a.hole(0, -4, 0, 1, 1);
        a.hole(0, -40, 0, 1, 1);
        Check.due("order", a.order(0, 0), 0);
        Check.due("of 0, 0", Check.written(a, 0), "M48\nL0,0\nT0C1P\n%\nT0\nX3Y0\nX5Y0\nX-2Y0\nM30\n");
        Check.due("of 1, 1", Check.written(a, 11), "M48\nL1,1\nT0C1P\n%\nT0\nX-4Y0\nX-40Y0\nM30\n");
    }
}
