/** Promises 6 and 7: unit, read. */
public final class ReadTest {
    private static final String HEAD = "M48\nL1,2\n";
    private static final String TOOLS = HEAD + "T0C5P\nT1C6N\n%\n";

    public static void main(String[] args) {
        units();
        rightTexts();
        becomesAll();
        wrongCharacters();
        wrongNumbers();
        unended();
        limits();
        allStays();
        Check.end("ReadTest");
    }

    private static void units() {
        DrillArchive a = new DrillArchive();
        for (int u = -300; u < 400; u++) {
            boolean right = u == 10 || (u >= 32 && u <= 126);
            Check.due("unit(" + u + ")", new DrillArchive().unit(u), right);
        }
        Check.due("unit far above", a.unit(Integer.MAX_VALUE), false);
        Check.due("unit far below", a.unit(Integer.MIN_VALUE), false);
        Check.due("none of these was taken", a.read(), -1);
        for (int i = 0; i < 2_000; i++) {
            Check.due("unit " + i, a.unit('M'), true);
        }
        Check.due("unit 2,001", a.unit('M'), false);
    }

    private static void right(String text, int hits) {
        DrillArchive a = new DrillArchive();
        Check.put(a, text);
        Check.due("read of " + text, a.read(), hits);
        Check.due("gone after " + text, a.read(), -1);
    }

    private static void wrong(String text, int place) {
        DrillArchive a = new DrillArchive();
        Check.put(a, text);
        Check.due("read of " + text, a.read(), -1 - place);
    }

    /** Wrong at the very place that the mark ^ stands in front of. */
    private static void marked(String text) {
        int place = text.indexOf('^');
        wrong(text.substring(0, place) + text.substring(place + 1), place);
    }

    private static void rightTexts() {
        right("M48\nL0,0\n%\nM30\n", 0);
        right("M48\nL7,7\nL3,6\nL0,7\n%\nM30\n", 0);
        right(TOOLS + "M30\n", 0);
        right(TOOLS + "T1\nT0\nT1\nM30\n", 0);
        right(TOOLS + "T1\nX0Y0\nT0\nX1Y1\nT1\nX0Y0\nX-0Y-0\nM30\n", 4);
        right("M48\nL0000000,0000007\nT0000000C0010000N\n%\nT000\nX-1000000Y0000001\nM30\n", 1);
        right(TOOLS + "T0\nX0Y0G85X0Y1\nX0Y0G85X1Y0\nM30\n", 2);
        right("M48\nL0,0\nT0C1P\n%\nT0\nX1000000Y-1000000G85X-1000000Y1000000\nM30\n", 1);
    }

    private static void becomesAll() {
        DrillArchive a = new DrillArchive();
        a.tool(77, true);
        a.tool(78, true);
        a.tool(79, true);
        a.hole(2, 9, 9, 0, 0);
        a.file(3);
        Check.due("a text ahead", Check.written(a, 0),
                "M48\nL0,0\nT0C77P\nT1C78P\nT2C79P\n%\nT2\nX9Y9\nM30\n");
        Check.put(a, "M48\nL7,7\nL1,2\nT0C5P\nT1C06N\n%\nT1\nX-4Y-05\nX1Y2G85X-3Y4\nT0\nX-0Y7\nM30\n");
        Check.due("read", a.read(), 3);
        long[][] want = {{1, -4, -5, -4, -5, 1, 2, 0}, {1, 1, 2, -3, 4, 0, 7, 1}, {0, 0, 7, 0, 7, 1, 2, 0}};
        for (int k = 0; k < want.length; k++) {
            for (int what = 0; what < 8; what++) {
                Check.due("at(" + k + ", " + what + ")", a.at(k, what), want[k][what]);
            }
        }
        Check.dueThrow("no more hits", Check.INDEX, () -> a.at(3, 0));
        Check.dueThrow("no more tools", Check.INDEX, () -> a.order(2, 0));
        Check.due("files stay", a.sum(0), 0);
        Check.due("order of tool 1", a.order(1, 0), 1);
        Check.due("travel of tool 1", a.travel(1), 2 + 9);
        Check.due("written again", Check.written(a, 12),
                "M48\nL1,2\nT0C5P\nT1C6N\n%\nT0\nX0Y7\nT1\nX-4Y-5\nM30\n");
        Check.due("the next hit", a.hole(1, 0, 0, 0, 0), 3);
        Check.due("the next tool", a.tool(1, false), 2);
    }

    private static void wrongCharacters() {
        String[] texts = {
            "^X", "^m48\n", "M^30\n", "M4^9\n", "M48^ \n", "M48\n^%\n", "M48\n^T0C1P\n", "M48\n^\n",
            "M48\nL^,1\n", "M48\nL0^.1\n", "M48\nL0^\n", "M48\nL0,^\n", "M48\nL^-0,1\n", "M48\nL0,^-1\n",
            "M48\nL0,1^,2\n", "M48\nL0,1^ \n", "M48\nL00000000".replace("L0000000", "L0000000^"),
            HEAD + "^X0Y0\n", HEAD + "^M30\n", HEAD + "T^C1P\n", HEAD + "T^-0C1P\n", HEAD + "T0^P\n",
            HEAD + "T0C^P\n", HEAD + "T0C^-1P\n", HEAD + "T0C1^\n", HEAD + "T0C1^p\n", HEAD + "T0C1P^N\n",
            HEAD + "T0^\n", HEAD + "T0C1P\n^L1,2\n", HEAD + "T0C0000001^0P\n", HEAD + "%^%\n", HEAD + "^ %\n",
            HEAD + "%\n^%\n", HEAD + "%\n^X0Y0\n", HEAD + "%\n^L1,2\n", HEAD + "%\nM^48\n",
            TOOLS + "T0^C5P\n", TOOLS + "T^\n", TOOLS + "T^-0\n", TOOLS + "^X0Y0\n", TOOLS + "^Y0\n",
            TOOLS + "T0\n^Y0\n", TOOLS + "T0\nX^Y0\n", TOOLS + "T0\nX-^Y0\n", TOOLS + "T0\nX-^-1Y0\n",
            TOOLS + "T0\nX^+1Y0\n", TOOLS + "T0\nX1^\n", TOOLS + "T0\nX1Y^\n", TOOLS + "T0\nX1Y1^X\n",
            TOOLS + "T0\nX0000000^0Y0\n", TOOLS + "T0\nX-0000000^0Y0\n", TOOLS + "T0\nX0Y1000000^0\n",
            TOOLS + "T0\nX0Y0G^X1Y1\n", TOOLS + "T0\nX0Y0G8^4X1Y1\n", TOOLS + "T0\nX0Y0G85^Y1\n",
            TOOLS + "T0\nX0Y0G85X1^\n", TOOLS + "T0\nX0Y0G85X1Y^\n", TOOLS + "T0\nX0Y0G85X1Y1^G\n",
            TOOLS + "T0\nX0Y0^ \n", TOOLS + "T0\n^%\n", TOOLS + "M^40\n", TOOLS + "M30^M\n",
            TOOLS + "M30\n^\n", TOOLS + "M30\n^M48\n", TOOLS + "M30\n^T0\n"
        };
        for (String text : texts) {
            marked(text);
        }
    }

    private static void wrongNumbers() {
        String[] texts = {
            "M48\n^L0,8\n", "M48\n^L8,8\n", "M48\n^L2,1\n", "M48\n^L0,0000010\nL0,1\n", "M48\nL0,1\n^L1,0\n",
            HEAD + "^T1C5P\n", HEAD + "T0C5P\n^T0C5P\n", HEAD + "T0C5P\n^T2C5P\n", HEAD + "^T9999999C5P\n",
            HEAD + "^T0C0P\n", HEAD + "^T0C10001P\n", HEAD + "^T0C9999999N\n",
            HEAD + "%\n^T0\n", TOOLS + "^T2\n", TOOLS + "T0\n^T9999999\nX0Y0\n",
            TOOLS + "T0\n^X1000001Y0\n", TOOLS + "T0\n^X0Y1000001\n", TOOLS + "T0\n^X-1000001Y0\n",
            TOOLS + "T0\n^X0Y-1000001\n", TOOLS + "T0\nX0Y0\n^X1000001Y0G85X0Y0\n",
            TOOLS + "T0\n^X0Y0G85X1000001Y0\n", TOOLS + "T0\n^X0Y0G85X0Y-9999999\n",
            TOOLS + "T0\n^X1Y2G85X01Y002\n", TOOLS + "T0\n^X0Y0G85X-0Y-0\n",
            TOOLS + "T0\n^X1000001Y0G85X1000001Y0\n"
        };
        for (String text : texts) {
            marked(text);
        }
        // A line's numbers are looked at once the line stands as such; what is ill formed tells its own place.
        marked(TOOLS + "T0\nX1000001Y0^Q\n");
        marked(HEAD + "T5C0^Q\n");
    }

    /** Every text that breaks off is wrong at its length. */
    private static void unended() {
        String whole = "M48\nL1,2\nL0,1\nT0C5P\nT1C6N\n%\nT1\nX-4Y5G85X1Y-1\nX1Y1\nT0\nM30\n";
        for (int length = 0; length < whole.length(); length++) {
            wrong(whole.substring(0, length), length);
        }
        right(whole, 2);
        wrong("M48\nL0,8", 8);
    }

    private static void limits() {
        StringBuilder ten = new StringBuilder("M48\nL0,0\n");
        for (int tool = 0; tool < 10; tool++) {
            ten.append("T").append(tool).append("C1P\n");
        }
        right(ten + "%\nT9\nX0Y0\nM30\n", 1);
        marked(ten + "^T10C1P\n%\nM30\n");
        marked(ten + "%\n^T10\nM30\n");
        StringBuilder sixty = new StringBuilder("M48\nL0,0\nT0C1P\n%\nT0\n");
        for (int hit = 0; hit < 60; hit++) {
            sixty.append("X0Y0\n");
        }
        right(sixty + "M30\n", 60);
        right(sixty + "T0\nM30\n", 60);
        marked(sixty + "^X0Y0\nM30\n");
        marked(sixty + "T0\n^X0Y0G85X1Y1\nM30\n");
    }

    private static void allStays() {
        DrillArchive a = new DrillArchive();
        a.tool(9, true);
        a.hole(0, 1, 2, 3, 4);
        Check.put(a, TOOLS + "T1\nX0Y0\nX5Y5\nM3");
        int length = (TOOLS + "T1\nX0Y0\nX5Y5\nM3").length();
        Check.due("unended", a.read(), -1 - length);
        Check.due("unended again", a.read(), -1 - length);
        Check.due("the tools stay", Check.written(a, 34), "M48\nL3,4\nT0C9P\n%\nT0\nX1Y2\nM30\n");
        Check.dueThrow("the hits stay", Check.INDEX, () -> a.at(1, 0));
        Check.due("a text ahead", Check.written(a, 12), "M48\nL1,2\nT0C9P\n%\nM30\n");
        Check.put(a, "0\n");
        Check.due("ended", a.read(), 2);
        Check.due("the tools are new", Check.written(a, 12),
                "M48\nL1,2\nT0C5P\nT1C6N\n%\nT1\nX0Y0\nX5Y5\nM30\n");
    }
}
