import java.util.Random;

/** Promises 9 to 11: order, travel, proved. */
public final class OrderTest {
    public static void main(String[] args) {
        noTool();
        fewHits();
        ties();
        eightAndNine();
        againstAllRows();
        againstNearest();
        Check.end("OrderTest");
    }

    private static void noTool() {
        DrillArchive a = new DrillArchive();
        a.tool(1, true);
        int[] none = {-1, 1, 10, Integer.MAX_VALUE, Integer.MIN_VALUE};
        for (int tool : none) {
            Check.dueThrow("order of " + tool, Check.INDEX, () -> a.order(tool, 0));
            Check.dueThrow("order of " + tool + ", k below 0", Check.INDEX, () -> a.order(tool, -1));
            Check.dueThrow("travel of " + tool, Check.INDEX, () -> a.travel(tool));
            Check.dueThrow("proved of " + tool, Check.INDEX, () -> a.proved(tool) ? 1 : 0);
        }
        Check.due("travel without hits", a.travel(0), 0);
        Check.due("proved without hits", a.proved(0), true);
        Check.due("order without hits", a.order(0, 0), DrillArchive.NONE);
    }

    private static String ordered(DrillArchive a, int tool) {
        StringBuilder row = new StringBuilder();
        for (int k = 0; k < 61 && a.order(tool, k) != DrillArchive.NONE; k++) {
            row.append(a.order(tool, k)).append(' ');
        }
        return row.append(a.travel(tool)).toString();
    }

    private static void fewHits() {
        DrillArchive a = new DrillArchive();
        a.tool(1, true);
        a.tool(1, true);
        a.hole(0, 10, 0, 0, 1);
        Check.due("one hit", ordered(a, 0), "0 10");
        a.hole(0, -5, 0, 0, 1);
        Check.due("two hits", ordered(a, 0), "1 0 20");
        a.hole(1, 100, 3, 0, 1);
        a.hole(0, 3, 0, 1, 2);
        Check.due("hits of all layers", ordered(a, 0), "1 3 0 20");
        Check.due("the other tool", ordered(a, 1), "2 100");
        Check.due("k below 0", a.order(0, -1), DrillArchive.NONE);
        Check.due("k far below 0", a.order(0, Integer.MIN_VALUE), DrillArchive.NONE);
        Check.due("k behind", a.order(0, 3), DrillArchive.NONE);
        Check.due("k far behind", a.order(0, Integer.MAX_VALUE), DrillArchive.NONE);
        a.slot(1, 99, 0, 1, 0);
        Check.due("a slot's own length is no travel", ordered(a, 1), "2 4 103");
        a.hole(1, -2, 0, 0, 1);
        Check.due("a slot ends at its other place", ordered(a, 1), "2 4 5 106");
    }

    private static void ties() {
        DrillArchive a = new DrillArchive();
        a.tool(1, true);
        a.hole(0, 5, 5, 0, 0);
        a.hole(0, 5, -5, 0, 0);
        a.hole(0, 5, 0, 0, 0);
        Check.due("lowest numbers first among equal travels", ordered(a, 0), "0 2 1 15");
        DrillArchive same = new DrillArchive();
        same.tool(1, true);
        for (int k = 0; k < 8; k++) {
            same.hole(0, 7, 7, 0, 0);
        }
        Check.due("eight at one place", ordered(same, 0), "0 1 2 3 4 5 6 7 7");
        same.hole(0, 7, 7, 0, 0);
        Check.due("nine at one place", ordered(same, 0), "0 1 2 3 4 5 6 7 8 7");
    }

    /** The nearest one first is not the least travel here: so eight and nine hits differ. */
    private static void eightAndNine() {
        DrillArchive a = new DrillArchive();
        a.tool(1, true);
        int[] xs = {1, -2, 4, -8, 16, -32, 64, -128};
        for (int x : xs) {
            a.hole(0, x, 0, 0, 0);
        }
        Check.due("eight: the least", ordered(a, 0), "0 2 4 6 1 3 5 7 256");
        Check.due("eight are proved", a.proved(0), true);
        a.hole(0, -128, 0, 0, 0);
        Check.due("nine: the nearest, of several the lowest", ordered(a, 0), "0 1 2 3 4 5 6 7 8 382");
        Check.due("nine are not proved", a.proved(0), false);
    }

    private static DrillArchive scattered(Random random, int count, int reach) {
        DrillArchive a = new DrillArchive();
        a.tool(1, true);
        a.tool(1, true);
        int mine = 0;
        while (mine < count) {
            int tool = random.nextInt(4) == 0 ? 0 : 1;
            int x = random.nextInt(2 * reach + 1) - reach;
            int y = random.nextInt(2 * reach + 1) - reach;
            int hit = random.nextBoolean() ? a.hole(tool, x, y, 0, 7) : a.slot(tool, x, y, -x - 1, y);
            if (hit == DrillArchive.NONE) {
                return a;
            }
            mine += tool;
        }
        return a;
    }

    private static void againstAllRows() {
        Random random = new Random(5);
        for (int run = 0; run < 300; run++) {
            int[] reaches = {1, 2, 5, 1_000_000 - 1};
            DrillArchive a = scattered(random, random.nextInt(9), reaches[run % 4]);
            Check.due("run " + run, ordered(a, 1), new PlainOrder(a, 1).least());
        }
    }

    private static void againstNearest() {
        Random random = new Random(6);
        for (int run = 0; run < 200; run++) {
            int[] reaches = {1, 3, 20, 1_000_000 - 1};
            DrillArchive a = scattered(random, 9 + random.nextInt(40), reaches[run % 4]);
            Check.due("run " + run, ordered(a, 1), new PlainOrder(a, 1).nearest());
        }
    }
}
