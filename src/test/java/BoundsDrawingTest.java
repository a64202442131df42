/** Every boundary that promises 1 to 4 and 8 name, a sentence each: a new object, tool, hole, slot, at. */
public final class BoundsDrawingTest {
    private static final long[] NO_PLACES = {
        1_000_001, -1_000_001, Integer.MAX_VALUE, Integer.MIN_VALUE, 1L << 31, 1L << 32, -(1L << 32), (1L << 32) + 1,
        Long.MAX_VALUE, Long.MIN_VALUE
    };
    private static final long[] LAST_PLACES = {1_000_000, -1_000_000};
    private static final int[] NO_LAYERS = {-1, 8, 10, 256, Integer.MAX_VALUE, Integer.MIN_VALUE};
    private static final int[] NO_TOOLS_OF_THREE = {-1, 3, 9, 10, 256, Integer.MAX_VALUE, Integer.MIN_VALUE};

    public static void main(String[] args) {
        newObjects();
        tools();
        holes();
        slots();
        parts();
        Check.end("BoundsDrawingTest");
    }

    private static void newObjects() {
        Check.test("1: no TOOLS: none has holes, slots, an ORDER, a TRAVEL", BoundsDrawingTest::noToolAtFirst);
        Check.test("1: no HITS: nothing of a HIT", BoundsDrawingTest::noHitAtFirst);
        Check.test("1: no TOOLS: the TEXTS of all LAYERS are without them", BoundsDrawingTest::emptyTexts);
        Check.test("1: no texts: an empty one is read", () -> Check.due("read", new DrillArchive().read(), -1));
        Check.test("1: no FILES: none has bytes, a SUM, a ROLE to be told", BoundsDrawingTest::noFileAtFirst);
        Check.test("1: nothing fed: no ARCHIVE", () -> Check.due("open", new DrillArchive().open(), -1));
        Check.test("1: numbers begin at 0", BoundsDrawingTest::numbersBegin);
        Check.test("1: what another object holds is not in a new one", BoundsDrawingTest::nothingShared);
    }

    private static void noToolAtFirst() {
        int[] numbers = {0, -1, 1, 9, 10};
        for (int tool : numbers) {
            DrillArchive a = new DrillArchive();
            Check.dueThrow("hole", Check.INDEX, () -> a.hole(tool, 0, 0, 0, 0));
            Check.dueThrow("slot", Check.INDEX, () -> a.slot(tool, 0, 0, 1, 1));
            Check.dueThrow("order", Check.INDEX, () -> a.order(tool, 0));
            Check.dueThrow("order, k below 0", Check.INDEX, () -> a.order(tool, -1));
            Check.dueThrow("travel", Check.INDEX, () -> a.travel(tool));
            Check.dueThrow("proved", Check.INDEX, () -> a.proved(tool) ? 1 : 0);
        }
    }

    private static void noHitAtFirst() {
        DrillArchive a = new DrillArchive();
        for (int w = -1; w <= 8; w++) {
            int what = w;
            Check.dueThrow("at(0, " + what + ")", Check.INDEX, () -> a.at(0, what));
        }
    }

    private static void emptyTexts() {
        for (int from = 0; from < 8; from++) {
            for (int to = from; to < 8; to++) {
                DrillArchive a = new DrillArchive();
                String want = "M48\nL" + from + "," + to + "\n%\nM30\n";
                Check.due("text of " + from + ", " + to, Check.written(a, from * 10 + to), want);
            }
        }
    }

    private static void noFileAtFirst() {
        DrillArchive a = new DrillArchive();
        Check.dueThrow("byteOf", Check.INDEX, () -> a.byteOf(0, 0) ? 1 : 0);
        Check.dueThrow("sum", Check.INDEX, () -> a.sum(0));
        Check.due("archive(0)", a.archive(0), 0);
        Check.due("archive(1)", a.archive(1), DrillArchive.NONE);
        Check.due("agrees", a.agrees(), true);
        Check.due("told(0)", a.told(0), DrillArchive.NONE);
    }

    private static void numbersBegin() {
        DrillArchive a = new DrillArchive();
        Check.due("tool", a.tool(1, true), 0);
        Check.due("hole", a.hole(0, 0, 0, 0, 0), 0);
        Check.due("file", a.file(7), 0);
        DrillArchive other = new DrillArchive();
        other.tool(1, true);
        Check.due("slot", other.slot(0, 0, 0, 0, 1), 0);
    }

    private static void nothingShared() {
        String before = Whole.of(a -> { });
        Made.some(new DrillArchive());
        Check.same("a new object", Whole.of(a -> { }), before);
    }

    private static void tools() {
        Check.test("2: 1 is the least diameter", () -> diameter(1, true));
        Check.test("2: 0 is no diameter", () -> noDiameter(0));
        Check.test("2: -1 is no diameter", () -> noDiameter(-1));
        Check.test("2: 10,000 is the largest diameter", () -> diameter(10_000, false));
        Check.test("2: 10,001 is no diameter", () -> noDiameter(10_001));
        Check.test("2: numbers that an int does not hold are no diameters", BoundsDrawingTest::noIntDiameters);
        Check.test("2: PLATED or not, its number counts on", BoundsDrawingTest::numbersOfTools);
        Check.test("2: the tenth TOOL is number 9, and is there", BoundsDrawingTest::tenthTool);
        Check.test("2: NONE when there are 10", () ->
                Check.refused("tool 11", a -> Made.tools(a, 10), a -> a.tool(300, true), "-1"));
        Check.test("2: no diameter, also when there are 10", () ->
                Check.refused("tool 11", a -> Made.tools(a, 10), a -> a.tool(0, true), Check.ARGUMENT));
    }

    private static void diameter(long diameter, boolean plated) {
        DrillArchive a = new DrillArchive();
        Check.due("tool(" + diameter + ")", a.tool(diameter, plated), 0);
        Check.due("its text", Check.written(a, 0),
                "M48\nL0,0\nT0C" + diameter + (plated ? "P" : "N") + "\n%\nM30\n");
    }

    private static void noDiameter(long diameter) {
        Check.refused("tool(" + diameter + ")", Made::some, a -> a.tool(diameter, true), Check.ARGUMENT);
        Check.refused("tool(" + diameter + ")", Made::some, a -> a.tool(diameter, false), Check.ARGUMENT);
    }

    private static void noIntDiameters() {
        long[] none = {
            Integer.MAX_VALUE, Integer.MIN_VALUE, 1L << 31, 1L << 32, (1L << 32) + 1, (1L << 32) + 10_000, 1 - (1L << 32),
            Long.MAX_VALUE, Long.MIN_VALUE, Long.MIN_VALUE + 1
        };
        for (long diameter : none) {
            noDiameter(diameter);
        }
    }

    private static void numbersOfTools() {
        DrillArchive a = new DrillArchive();
        Check.due("plated", a.tool(5, true), 0);
        Check.due("not plated", a.tool(5, false), 1);
        Check.dueThrow("refused", Check.ARGUMENT, () -> a.tool(0, false));
        Check.due("plated again", a.tool(5, true), 2);
        Check.due("text", Check.written(a, 0), "M48\nL0,0\nT0C5P\nT1C5N\nT2C5P\n%\nM30\n");
    }

    private static void tenthTool() {
        DrillArchive a = new DrillArchive();
        Made.tools(a, 9);
        Check.dueThrow("none yet", Check.INDEX, () -> a.hole(9, 0, 0, 0, 0));
        Check.due("the tenth", a.tool(10_000, false), 9);
        Check.due("its hit", a.hole(9, 4, 0, 0, 0), 0);
        Check.due("its travel", a.travel(9), 4);
        Check.dueThrow("no eleventh", Check.INDEX, () -> a.hole(10, 0, 0, 0, 0));
    }

    private static void holes() {
        Check.test("3: the last places along x and y, on both sides", BoundsDrawingTest::lastPlacesOfHoles);
        Check.test("3: the first that are no places, along x", () -> {
            for (long far : NO_PLACES) {
                noHole(0, far, 0, 0, 0, Check.ARGUMENT);
            }
        });
        Check.test("3: the first that are no places, along y", () -> {
            for (long far : NO_PLACES) {
                noHole(0, 0, far, 0, 0, Check.ARGUMENT);
            }
        });
        Check.test("3: each layer from and to, from above to", BoundsDrawingTest::layersOfHoles);
        Check.test("3: from a layer that is none", () -> {
            for (int layer : NO_LAYERS) {
                noHole(0, 0, 0, layer, 7, Check.INDEX);
            }
        });
        Check.test("3: to a layer that is none", () -> {
            for (int layer : NO_LAYERS) {
                noHole(0, 0, 0, 0, layer, Check.INDEX);
            }
        });
        Check.test("3: from above to leaves all as it was", () -> noHole(0, 0, 0, 1, 0, Check.ARGUMENT));
        Check.test("3: no such TOOL", () -> {
            for (int tool : NO_TOOLS_OF_THREE) {
                noHole(tool, 0, 0, 0, 0, Check.INDEX);
            }
        });
        Check.test("3: no such TOOL or layer, and no place or from above to as well", () -> {
            noHole(3, 1_000_001, 0, 0, 0, Check.INDEX);
            noHole(3, 0, 0, 1, 0, Check.INDEX);
            noHole(0, 0, 1_000_001, 8, 8, Check.INDEX);
            noHole(0, 0, 0, 8, 7, Check.INDEX);
            noHole(0, 0, 0, 0, -1, Check.INDEX);
        });
        Check.test("3: a place may have several HITS", BoundsDrawingTest::samePlace);
        Check.test("3: the sixtieth HIT is number 59, and is there", BoundsDrawingTest::sixtiethHole);
        Check.test("3: NONE when there are 60", () ->
                Check.refused("hole 61", a -> Made.hits(a, 60), a -> a.hole(0, 9, 9, 1, 2), "-1"));
        Check.test("3: the exceptions, also when there are 60", () -> {
            Check.refused("hole 61", a -> Made.hits(a, 60), a -> a.hole(1, 9, 9, 1, 2), Check.INDEX);
            Check.refused("hole 61", a -> Made.hits(a, 60), a -> a.hole(0, 9, 9, 1, 8), Check.INDEX);
            Check.refused("hole 61", a -> Made.hits(a, 60), a -> a.hole(0, 9, 1_000_001, 1, 2), Check.ARGUMENT);
            Check.refused("hole 61", a -> Made.hits(a, 60), a -> a.hole(0, 9, 9, 2, 1), Check.ARGUMENT);
        });
    }

    private static void noHole(int tool, long x, long y, int from, int to, String want) {
        String call = "hole(" + tool + ", " + x + ", " + y + ", " + from + ", " + to + ")";
        Check.refused(call, Made::some, a -> a.hole(tool, x, y, from, to), want);
    }

    private static void lastPlacesOfHoles() {
        for (long x : LAST_PLACES) {
            for (long y : LAST_PLACES) {
                DrillArchive a = new DrillArchive();
                a.tool(5, true);
                Check.due("hole at " + x + ", " + y, a.hole(0, x, y, 0, 0), 0);
                has(a, 0, 0, x, y, x, y, 0, 0, 0);
            }
        }
    }

    private static void layersOfHoles() {
        for (int f = 0; f < 8; f++) {
            for (int t = 0; t < 8; t++) {
                int from = f;
                int to = t;
                DrillArchive a = new DrillArchive();
                a.tool(5, true);
                String want = from > to ? Check.ARGUMENT : "0";
                Check.due("hole from " + from + " to " + to, Check.answer(() -> a.hole(0, 1, 2, from, to)), want);
                if (from <= to) {
                    has(a, 0, 0, 1, 2, 1, 2, from, to, 0);
                }
            }
        }
    }

    private static void samePlace() {
        DrillArchive a = new DrillArchive();
        a.tool(5, true);
        Check.due("a hole", a.hole(0, 1, 2, 3, 4), 0);
        Check.due("the same hole", a.hole(0, 1, 2, 3, 4), 1);
        Check.due("a slot there", a.slot(0, 1, 2, 0, 0), 2);
        Check.due("the same slot", a.slot(0, 1, 2, 0, 0), 3);
        Check.dueThrow("no more", Check.INDEX, () -> a.at(4, 0));
    }

    private static void sixtiethHole() {
        DrillArchive a = new DrillArchive();
        Made.hits(a, 59);
        Check.dueThrow("none yet", Check.INDEX, () -> a.at(59, 0));
        Check.due("the sixtieth", a.hole(0, 9, 8, 1, 2), 59);
        has(a, 59, 0, 9, 8, 9, 8, 1, 2, 0);
        Check.dueThrow("no sixty-first", Check.INDEX, () -> a.at(60, 0));
    }

    private static void slots() {
        Check.test("4: from layer 0 to 7", BoundsDrawingTest::layersOfSlots);
        Check.test("4: the last places along x and y, on both sides", BoundsDrawingTest::lastPlacesOfSlots);
        Check.test("4: the first that are no places, each of the four", () -> {
            for (long far : NO_PLACES) {
                noSlot(0, far, 0, 1, 1, Check.ARGUMENT);
                noSlot(0, 0, far, 1, 1, Check.ARGUMENT);
                noSlot(0, 0, 0, far, 1, Check.ARGUMENT);
                noSlot(0, 0, 0, 1, far, Check.ARGUMENT);
            }
        });
        Check.test("4: both places are one", () -> {
            noSlot(0, 0, 0, 0, 0, Check.ARGUMENT);
            noSlot(0, 3, -4, 3, -4, Check.ARGUMENT);
            noSlot(0, 1_000_000, -1_000_000, 1_000_000, -1_000_000, Check.ARGUMENT);
            noSlot(0, 1_000_001, 0, 1_000_001, 0, Check.ARGUMENT);
        });
        Check.test("4: two places that differ along x alone, or y alone, by 1", BoundsDrawingTest::nearlyOnePlace);
        Check.test("4: no such TOOL", () -> {
            for (int tool : NO_TOOLS_OF_THREE) {
                noSlot(tool, 0, 0, 1, 1, Check.INDEX);
            }
        });
        Check.test("4: no such TOOL, and no place or both places one as well", () -> {
            noSlot(3, 1_000_001, 0, 1, 1, Check.INDEX);
            noSlot(3, 1, 1, 1, 1, Check.INDEX);
        });
        Check.test("4: the sixtieth HIT is number 59, and is there", BoundsDrawingTest::sixtiethSlot);
        Check.test("4: NONE when there are 60", () ->
                Check.refused("slot 61", a -> Made.hits(a, 60), a -> a.slot(0, 9, 9, 1, 2), "-1"));
        Check.test("4: the exceptions, also when there are 60", () -> {
            Check.refused("slot 61", a -> Made.hits(a, 60), a -> a.slot(1, 9, 9, 1, 2), Check.INDEX);
            Check.refused("slot 61", a -> Made.hits(a, 60), a -> a.slot(0, 9, 9, 1_000_001, 2), Check.ARGUMENT);
            Check.refused("slot 61", a -> Made.hits(a, 60), a -> a.slot(0, 9, 9, 9, 9), Check.ARGUMENT);
        });
    }

    private static void noSlot(int tool, long x, long y, long x2, long y2, String want) {
        String call = "slot(" + tool + ", " + x + ", " + y + ", " + x2 + ", " + y2 + ")";
        Check.refused(call, Made::some, a -> a.slot(tool, x, y, x2, y2), want);
    }

    private static void layersOfSlots() {
        DrillArchive a = new DrillArchive();
        a.tool(5, true);
        Check.due("slot", a.slot(0, 1, 2, -3, 4), 0);
        has(a, 0, 0, 1, 2, -3, 4, 0, 7, 1);
        Check.due("in the text of 0, 7", Check.written(a, 7),
                "M48\nL0,7\nT0C5P\n%\nT0\nX1Y2G85X-3Y4\nM30\n");
        Check.due("not in that of 0, 6", Check.written(a, 6), "M48\nL0,6\nT0C5P\n%\nM30\n");
        Check.due("not in that of 1, 7", Check.written(a, 17), "M48\nL1,7\nT0C5P\n%\nM30\n");
    }

    private static void lastPlacesOfSlots() {
        for (long x : LAST_PLACES) {
            for (long y : LAST_PLACES) {
                DrillArchive a = new DrillArchive();
                a.tool(5, true);
                Check.due("slot across", a.slot(0, x, y, -x, -y), 0);
                has(a, 0, 0, x, y, -x, -y, 0, 7, 1);
            }
        }
    }

    private static void nearlyOnePlace() {
        DrillArchive a = new DrillArchive();
        a.tool(5, true);
        Check.due("along x", a.slot(0, 3, 4, 4, 4), 0);
        Check.due("along y", a.slot(0, 3, 4, 3, 3), 1);
        Check.due("x and y changed about", a.slot(0, 3, 4, 4, 3), 2);
        has(a, 0, 0, 3, 4, 4, 4, 0, 7, 1);
        has(a, 1, 0, 3, 4, 3, 3, 0, 7, 1);
    }

    private static void sixtiethSlot() {
        DrillArchive a = new DrillArchive();
        Made.hits(a, 59);
        Check.due("the sixtieth", a.slot(0, 9, 8, 7, 6), 59);
        has(a, 59, 0, 9, 8, 7, 6, 0, 7, 1);
        Check.dueThrow("no sixty-first", Check.INDEX, () -> a.at(60, 0));
    }

    private static void has(DrillArchive a, int k, long... want) {
        for (int what = 0; what < 8; what++) {
            Check.due("at(" + k + ", " + what + ")", a.at(k, what), want[what]);
        }
    }

    private static void parts() {
        Check.test("8: each what of a hole, which ends where it begins", () -> {
            DrillArchive a = new DrillArchive();
            Made.tools(a, 10);
            a.hole(9, -12, 34, 2, 5);
            has(a, 0, 9, -12, 34, -12, 34, 2, 5, 0);
        });
        Check.test("8: each what of a slot", () -> {
            DrillArchive a = new DrillArchive();
            Made.tools(a, 10);
            a.slot(8, 1, -2, -3, 4);
            has(a, 0, 8, 1, -2, -3, 4, 0, 7, 1);
        });
        Check.test("8: the first and the last HIT", () -> {
            DrillArchive a = new DrillArchive();
            Made.hits(a, 60);
            has(a, 0, 0, 0, 0, 0, 0, 1, 2, 0);
            has(a, 59, 0, 59, 0, 0, -59, 0, 7, 1);
        });
        Check.test("8: no such HIT", () -> noneAt(0, -1, 5, 59, 60, Integer.MAX_VALUE, Integer.MIN_VALUE));
        Check.test("8: no such HIT behind the last of 60", () -> {
            DrillArchive a = new DrillArchive();
            Made.hits(a, 60);
            Check.dueThrow("at(60, 0)", Check.INDEX, () -> a.at(60, 0));
            Check.dueThrow("at(61, 0)", Check.INDEX, () -> a.at(61, 0));
        });
        Check.test("8: no such what", () -> {
            int[] none = {-1, 8, 9, Integer.MAX_VALUE, Integer.MIN_VALUE};
            for (int what : none) {
                noneAt(what, 0, 4, 5);
            }
        });
    }

    private static void noneAt(int what, int... hits) {
        for (int k : hits) {
            DrillArchive a = new DrillArchive();
            Made.some(a);
            Check.dueThrow("at(" + k + ", " + what + ")", Check.INDEX, () -> a.at(k, what));
        }
    }
}
