/** Promises 1 to 4 and 8: a new object, tool, hole, slot, at. */
public final class ToolsTest {
    public static void main(String[] args) {
        newObject();
        tools();
        holes();
        slots();
        parts();
        sixtyHits();
        Check.end("ToolsTest");
    }

    private static void newObject() {
        DrillArchive a = new DrillArchive();
        Check.dueThrow("no tool at first", Check.INDEX, () -> a.travel(0));
        Check.dueThrow("no hit at first", Check.INDEX, () -> a.at(0, 0));
        Check.dueThrow("no file at first", Check.INDEX, () -> a.sum(0));
        Check.due("text of nothing", Check.written(a, 34), "M48\nL3,4\n%\nM30\n");
        Check.due("archive of nothing", Check.joined(a), "0");
        Check.due("nothing to be read", a.read(), -1);
        Check.due("nothing to be opened", a.open(), -1);
        Check.due("nothing told", a.told(0), -1);
        Check.due("nothing disagrees", a.agrees(), true);
    }

    private static void tools() {
        DrillArchive a = new DrillArchive();
        long[] none = {0, -1, 10_001, Long.MAX_VALUE, Long.MIN_VALUE, (1L << 32) + 5};
        for (long diameter : none) {
            Check.dueThrow("tool of " + diameter, Check.ARGUMENT, () -> a.tool(diameter, true));
        }
        Check.due("least diameter", a.tool(1, true), 0);
        Check.due("largest diameter", a.tool(10_000, false), 1);
        Check.due("wide and narrow", Check.written(a, 0), "M48\nL0,0\nT0C1P\nT1C10000N\n%\nM30\n");
        for (int number = 2; number < 10; number++) {
            Check.due("tool " + number, a.tool(7, true), number);
        }
        Check.due("an 11th tool", a.tool(7, true), DrillArchive.NONE);
        Check.dueThrow("an 11th tool that is none", Check.ARGUMENT, () -> a.tool(0, true));
        Check.due("the 10th tool is there", a.travel(9), 0);
        Check.dueThrow("the 11th is not", Check.INDEX, () -> a.travel(10));
    }

    private static void holes() {
        DrillArchive a = new DrillArchive();
        Check.dueThrow("hole of no tool", Check.INDEX, () -> a.hole(0, 0, 0, 0, 0));
        a.tool(5, true);
        int[] noTool = {-1, 1, Integer.MAX_VALUE, Integer.MIN_VALUE};
        for (int tool : noTool) {
            Check.dueThrow("hole of tool " + tool, Check.INDEX, () -> a.hole(tool, 0, 0, 0, 0));
            Check.dueThrow("and no place", Check.INDEX, () -> a.hole(tool, 2_000_000, 0, 0, 0));
        }
        int[] noLayer = {-1, 8, Integer.MAX_VALUE, Integer.MIN_VALUE};
        for (int layer : noLayer) {
            Check.dueThrow("hole from " + layer, Check.INDEX, () -> a.hole(0, 0, 0, layer, 7));
            Check.dueThrow("hole to " + layer, Check.INDEX, () -> a.hole(0, 0, 0, 0, layer));
            Check.dueThrow("and no place", Check.INDEX, () -> a.hole(0, 2_000_000, 0, 0, layer));
        }
        long[] noPlace = {1_000_001, -1_000_001, Long.MAX_VALUE, Long.MIN_VALUE, 1L << 32};
        for (long far : noPlace) {
            Check.dueThrow("hole at x " + far, Check.ARGUMENT, () -> a.hole(0, far, 0, 0, 0));
            Check.dueThrow("hole at y " + far, Check.ARGUMENT, () -> a.hole(0, 0, far, 0, 0));
        }
        Check.dueThrow("from above to", Check.ARGUMENT, () -> a.hole(0, 0, 0, 4, 3));
        Check.dueThrow("no hit came of these", Check.INDEX, () -> a.at(0, 0));
        Check.due("farthest hole", a.hole(0, 1_000_000, -1_000_000, 0, 7), 0);
        Check.due("one layer", a.hole(0, -1_000_000, 1_000_000, 7, 7), 1);
        Check.due("the same place again", a.hole(0, -1_000_000, 1_000_000, 7, 7), 2);
    }

    private static void slots() {
        DrillArchive a = new DrillArchive();
        Check.dueThrow("slot of no tool", Check.INDEX, () -> a.slot(0, 0, 0, 1, 1));
        a.tool(5, true);
        Check.dueThrow("slot of tool -1", Check.INDEX, () -> a.slot(-1, 0, 0, 1, 1));
        Check.dueThrow("slot of tool 1, one place", Check.INDEX, () -> a.slot(1, 0, 0, 0, 0));
        long[] noPlace = {1_000_001, -1_000_001, Long.MAX_VALUE, Long.MIN_VALUE};
        for (long far : noPlace) {
            Check.dueThrow("slot at x " + far, Check.ARGUMENT, () -> a.slot(0, far, 0, 1, 1));
            Check.dueThrow("slot at y " + far, Check.ARGUMENT, () -> a.slot(0, 0, far, 1, 1));
            Check.dueThrow("slot to x " + far, Check.ARGUMENT, () -> a.slot(0, 0, 0, far, 1));
            Check.dueThrow("slot to y " + far, Check.ARGUMENT, () -> a.slot(0, 0, 0, 1, far));
        }
        Check.dueThrow("slot with one place", Check.ARGUMENT, () -> a.slot(0, 3, -4, 3, -4));
        Check.due("slot along x", a.slot(0, 3, 4, 5, 4), 0);
        Check.due("slot along y", a.slot(0, 3, 4, 3, 5), 1);
        Check.due("slot from corner to corner",
                a.slot(0, -1_000_000, -1_000_000, 1_000_000, 1_000_000), 2);
    }

    private static void parts() {
        DrillArchive a = new DrillArchive();
        a.tool(5, true);
        a.tool(6, true);
        a.hole(1, -12, 34, 2, 5);
        a.slot(0, 1, -2, -3, 4);
        parts(a, 0, new long[] {1, -12, 34, -12, 34, 2, 5, 0});
        parts(a, 1, new long[] {0, 1, -2, -3, 4, 0, 7, 1});
        int[] none = {-1, 2, 60, Integer.MAX_VALUE, Integer.MIN_VALUE};
        for (int k : none) {
            Check.dueThrow("at of hit " + k, Check.INDEX, () -> a.at(k, 0));
        }
        int[] nothing = {-1, 8, Integer.MAX_VALUE, Integer.MIN_VALUE};
        for (int what : nothing) {
            Check.dueThrow("at of part " + what, Check.INDEX, () -> a.at(0, what));
        }
    }

    private static void parts(DrillArchive a, int k, long[] want) {
        for (int what = 0; what < want.length; what++) {
            Check.due("at(" + k + ", " + what + ")", a.at(k, what), want[what]);
        }
    }

    private static void sixtyHits() {
        DrillArchive a = new DrillArchive();
        a.tool(5, true);
        a.tool(6, false);
        for (int k = 0; k < 60; k++) {
            int got = k % 2 == 0 ? a.hole(k % 3 % 2, k, -k, 1, 2) : a.slot(k % 3 % 2, k, 0, 0, -k);
            Check.due("hit " + k, got, k);
        }
        Check.due("a 61st hole", a.hole(0, 0, 0, 0, 0), DrillArchive.NONE);
        Check.due("a 61st slot", a.slot(0, 0, 0, 1, 0), DrillArchive.NONE);
        Check.dueThrow("a 61st hole of no tool", Check.INDEX, () -> a.hole(2, 0, 0, 0, 0));
        Check.dueThrow("a 61st slot with one place", Check.ARGUMENT, () -> a.slot(0, 1, 1, 1, 1));
        Check.due("the 60th hit", a.at(59, 4), -59);
        Check.dueThrow("no 61st hit", Check.INDEX, () -> a.at(60, 0));
    }
}
