/** Promise 5: write. */
public final class WriteTest {
    public static void main(String[] args) {
        layers();
        places();
        hitsInOrder();
        changes();
        longest();
        Check.end("WriteTest");
    }

    private static void layers() {
        DrillArchive a = new DrillArchive();
        for (int layers = -120; layers < 120; layers++) {
            int from = layers / 10;
            int to = layers % 10;
            boolean right = layers >= 0 && from <= 7 && to <= 7 && from <= to;
            int asked = layers;
            String want = right ? "M48\nL" + from + "," + to + "\n%\nM30\n" : Check.INDEX;
            String got = right ? Check.written(a, layers) : Check.answer(() -> a.write(asked, 0));
            Check.due("text of layers " + layers, got, want);
        }
        Check.dueThrow("layers far above", Check.INDEX, () -> a.write(Integer.MAX_VALUE, 0));
        Check.dueThrow("layers far below", Check.INDEX, () -> a.write(Integer.MIN_VALUE, 0));
    }

    private static void places() {
        DrillArchive a = new DrillArchive();
        Check.dueThrow("place -1", Check.INDEX, () -> a.write(0, -1));
        Check.dueThrow("place far below", Check.INDEX, () -> a.write(0, Integer.MIN_VALUE));
        Check.due("last place", a.write(0, 14), 10);
        Check.due("just behind", a.write(0, 15), DrillArchive.NONE);
        Check.due("far behind", a.write(0, Integer.MAX_VALUE), DrillArchive.NONE);
    }

    private static void hitsInOrder() {
        DrillArchive a = new DrillArchive();
        a.tool(300, true);
        a.tool(50, false);
        a.tool(1, false);
        a.hole(0, 10, 0, 0, 1);
        a.hole(0, -5, 0, 0, 1);
        a.hole(0, 3, 0, 1, 2);
        a.slot(1, 5, 5, 5, -20);
        a.slot(1, 5, -21, 6, -21);
        a.hole(1, 1_000_000, -1_000_000, 0, 7);
        a.hole(2, 0, -100, 0, 1);
        String head = "T0C300P\nT1C50N\nT2C1N\n%\n";
        Check.due("layers 0, 1", Check.written(a, 1),
                "M48\nL0,1\n" + head + "T0\nX-5Y0\nX10Y0\nT2\nX0Y-100\nM30\n");
        Check.due("layers 1, 2", Check.written(a, 12), "M48\nL1,2\n" + head + "T0\nX3Y0\nM30\n");
        Check.due("layers 0, 7", Check.written(a, 7), "M48\nL0,7\n" + head
                + "T1\nX5Y5G85X5Y-20\nX5Y-21G85X6Y-21\nX1000000Y-1000000\nM30\n");
        Check.due("layers 0, 2: of just these", Check.written(a, 2), "M48\nL0,2\n" + head + "M30\n");
    }

    private static void changes() {
        DrillArchive a = new DrillArchive();
        a.tool(1, true);
        Check.due("before", Check.written(a, 1), "M48\nL0,1\nT0C1P\n%\nM30\n");
        a.tool(2, true);
        Check.due("a tool more", Check.written(a, 1), "M48\nL0,1\nT0C1P\nT1C2P\n%\nM30\n");
        a.hole(1, 4, 0, 0, 1);
        Check.due("a hole more", Check.written(a, 1),
                "M48\nL0,1\nT0C1P\nT1C2P\n%\nT1\nX4Y0\nM30\n");
        a.hole(1, 3, 0, 0, 1);
        Check.due("a nearer hole", Check.written(a, 1),
                "M48\nL0,1\nT0C1P\nT1C2P\n%\nT1\nX3Y0\nX4Y0\nM30\n");
        Check.due("no slot yet", Check.written(a, 7), "M48\nL0,7\nT0C1P\nT1C2P\n%\nM30\n");
        a.slot(0, 1, 1, 2, 2);
        Check.due("a slot", Check.written(a, 7),
                "M48\nL0,7\nT0C1P\nT1C2P\n%\nT0\nX1Y1G85X2Y2\nM30\n");
        a.slot(1, 3, 1, 0, 0);
        Check.due("a slot of other layers moves the holes", Check.written(a, 1),
                "M48\nL0,1\nT0C1P\nT1C2P\n%\nT1\nX3Y0\nX4Y0\nM30\n");
    }

    private static void longest() {
        DrillArchive a = new DrillArchive();
        StringBuilder want = new StringBuilder("M48\nL0,7\n");
        for (int tool = 0; tool < 10; tool++) {
            a.tool(10_000, true);
            want.append("T").append(tool).append("C10000P\n");
        }
        want.append("%\n");
        for (int tool = 0; tool < 10; tool++) {
            want.append("T").append(tool).append("\n");
            for (int k = 0; k < 6; k++) {
                a.slot(tool, -1_000_000, -1_000_000, -1_000_000, -999_999);
                want.append("X-1000000Y-1000000G85X-1000000Y-999999\n");
            }
        }
        Check.due("longest text", Check.written(a, 7), want.append("M30\n").toString());
    }
}
