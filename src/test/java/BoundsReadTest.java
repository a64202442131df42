/** Every boundary that promises 6 and 7 and the terms of a TEXT read name, a sentence each: unit, read. */
public final class BoundsReadTest {
    private static final String LAYERS = "M48\nL1,2\n";
    private static final String TOOLS = LAYERS + "T0C5P\nT1C6N\n%\n";
    private static final String CHOSEN = TOOLS + "T0\n";
    /** A line of each kind, so that each way to break a line has its place in it. */
    private static final String EACH = LAYERS + "L0,1\nT0C5P\nT1C6N\n%\nT1\nX-4Y5\nX1Y-1G85X2Y33\nT0\nX0Y0\nM30\n";

    public static void main(String[] args) {
        units();
        breakingOff();
        heads();
        toolLines();
        choices();
        hitLines();
        becoming();
        staying();
        Check.end("BoundsReadTest");
    }

    private static void units() {
        Check.test("6: 32 is the first, 31 is none", () -> characters(32, 31));
        Check.test("6: 126 is the last, 127 is none", () -> characters(126, 127));
        Check.test("6: 10 is one, 9, 11 and 13 are none", () -> {
            characters(10, 9);
            characters(10, 11);
            characters(10, 13);
        });
        Check.test("6: all of 32 .. 126 are characters", () -> {
            for (int u = 32; u <= 126; u++) {
                Check.due("unit(" + u + ")", new DrillArchive().unit(u), true);
            }
        });
        Check.test("6: none below 0, 0, above 127, far away", () -> {
            int[] none = {-1, -10, -32, 0, 128, 255, 256, 256 + 10, 256 + 'M', (1 << 16) + 'M', Integer.MAX_VALUE,
                Integer.MIN_VALUE, Integer.MIN_VALUE + 'M'};
            for (int u : none) {
                Check.refused("unit(" + u + ")", Made::some, a -> a.unit(u) ? 1 : 0, "0");
            }
        });
        Check.test("6: one that is refused is no character of the text", BoundsReadTest::refusedUnits);
        // No object's 512 calls get so far, so this limit is kept without being promised.
        Check.test("6: 2,000 characters, and no more", () -> {
            DrillArchive a = new DrillArchive();
            for (int i = 0; i < 2_000; i++) {
                Check.due("unit " + i, a.unit(i < 4 ? "M48\n".charAt(i) : 'L'), true);
            }
            Check.due("unit 2,000", a.unit('L'), false);
            Check.due("read", a.read(), -1 - 5);
        });
    }

    private static void characters(int one, int none) {
        DrillArchive a = new DrillArchive();
        Check.due("unit(" + one + ")", a.unit(one), true);
        Check.refused("unit(" + none + ")", Made::some, b -> b.unit(none) ? 1 : 0, "0");
    }

    private static void refusedUnits() {
        DrillArchive a = new DrillArchive();
        String text = CHOSEN + "X1Y1\nM30\n";
        for (int i = 0; i < text.length(); i++) {
            Check.due("refused", a.unit(i % 2 == 0 ? 127 : 13), false);
            Check.due("unit", a.unit(text.charAt(i)), true);
        }
        Check.due("read", a.read(), 1);
    }

    private static void right(String text, int hits) {
        DrillArchive a = new DrillArchive();
        Check.put(a, text);
        Check.due("read of " + text, a.read(), hits);
    }

    /** Wrong at the place that the mark ^ stands in front of, however often it is read: all stays. */
    private static void wrong(String... marked) {
        for (String text : marked) {
            int place = text.indexOf('^');
            wrongAt(text.substring(0, place) + text.substring(place + 1), place);
        }
    }

    private static void wrongAt(String text, int place) {
        DrillArchive a = new DrillArchive();
        Check.put(a, text);
        Check.due("read of " + text, a.read(), -1 - place);
        Check.due("again, read of " + text, a.read(), -1 - place);
    }

    private static void breakingOff() {
        Check.test("7: an empty text is wrong at its length, 0", () -> wrongAt("", 0));
        Check.test("7: a text that breaks off is wrong at its length", () -> {
            for (int length = 0; length < EACH.length(); length++) {
                wrongAt(EACH.substring(0, length), length);
            }
            right(EACH, 3);
        });
        Check.test("7: a character that is none there is wrong at its place", () -> {
            for (int place = 0; place < EACH.length(); place++) {
                wrongAt(EACH.substring(0, place) + "Q" + EACH.substring(place + 1), place);
            }
        });
        Check.test("7: a character too many is wrong at its place", () -> {
            for (int place = 0; place <= EACH.length(); place++) {
                wrongAt(EACH.substring(0, place) + "Q" + EACH.substring(place), place);
                wrongAt(EACH.substring(0, place) + " " + EACH.substring(place), place);
            }
        });
        Check.test("7: a line that is not ended by a line feed is wrong where it is due", () -> {
            for (int place = EACH.indexOf('\n'); place >= 0; place = EACH.indexOf('\n', place + 1)) {
                wrongAt(EACH.substring(0, place) + EACH.substring(place + 1), place);
            }
        });
        Check.test("7: an empty line is wrong at its line feed", () -> {
            for (int place = EACH.indexOf('\n'); place >= 0; place = EACH.indexOf('\n', place + 1)) {
                wrongAt(EACH.substring(0, place + 1) + "\n" + EACH.substring(place + 1), place + 1);
            }
        });
        Check.test("7: a sign that comes twice is wrong at the second", () -> {
            for (int place = 0; place < EACH.length(); place++) {
                if (!Character.isDigit(EACH.charAt(place))) {
                    wrongAt(EACH.substring(0, place + 1) + EACH.substring(place), place + 1);
                }
            }
        });
        Check.test("7: every text one character away from a right one", BoundsReadTest::neighbours);
        Check.test("7: small letters are wrong", () -> {
            for (int place = 0; place < EACH.length(); place++) {
                if (Character.isUpperCase(EACH.charAt(place))) {
                    char small = Character.toLowerCase(EACH.charAt(place));
                    wrongAt(EACH.substring(0, place) + small + EACH.substring(place + 1), place);
                }
            }
        });
        Check.test("7: nothing may be behind M30", () ->
                wrong(TOOLS + "M30\n^\n", TOOLS + "M30\n^M30\n", TOOLS + "M30\n^M48\n", TOOLS + "M30\n^T0\n"));
        Check.test("7: the first of several wrong lines is told", () -> wrong("M48\n^L0,8\nQ\n",
                LAYERS + "^T1C0P\n%\nT5\n", CHOSEN + "^X1000001Y0\nX0Y0Q\n", CHOSEN + "X0Y0^Q\nX1000001Y0\n"));
    }

    /** Too many to tell the place of each by hand: the plain model tells it in another way. */
    private static void neighbours() {
        String signs = "M4830LTCPN%XYG5,-19 \n";
        for (int place = 0; place <= EACH.length(); place++) {
            String before = EACH.substring(0, place);
            String from = EACH.substring(place);
            String behind = from.isEmpty() ? "" : from.substring(1);
            asTheModel(before + behind);
            for (int i = 0; i < signs.length(); i++) {
                asTheModel(before + signs.charAt(i) + from);
                asTheModel(before + signs.charAt(i) + behind);
            }
        }
    }

    private static void asTheModel(String text) {
        DrillArchive a = new DrillArchive();
        PlainModel model = new PlainModel();
        for (int i = 0; i < text.length(); i++) {
            a.unit(text.charAt(i));
            model.unit(text.charAt(i));
        }
        Check.due("read of " + text, a.read(), model.read());
    }

    private static void heads() {
        Check.test("7: at least one L line", () -> wrong("M48\n^%\nM30\n", "M48\n^T0C5P\n%\nM30\n", "M48\n^M30\n"));
        Check.test("7: several L lines ahead of the first T line, the last one holds", BoundsReadTest::lastLayers);
        Check.test("7: no L line behind a T line, or behind %", () ->
                wrong(LAYERS + "T0C5P\n^L1,2\n%\nM30\n", LAYERS + "%\n^L1,2\nM30\n", CHOSEN + "^L1,2\nM30\n"));
        Check.test("7: the first and the last layers", () -> {
            right("M48\nL0,0\n%\nM30\n", 0);
            right("M48\nL0,7\n%\nM30\n", 0);
            right("M48\nL7,7\n%\nM30\n", 0);
        });
        Check.test("7: layers that are none", () -> wrong("M48\n^L0,8\n%\nM30\n", "M48\n^L8,8\n%\nM30\n",
                "M48\n^L8,7\n%\nM30\n", "M48\n^L7,10\n%\nM30\n", "M48\n^L9999999,9999999\n%\nM30\n"));
        Check.test("7: from above to", () ->
                wrong("M48\n^L1,0\n%\nM30\n", "M48\n^L7,6\n%\nM30\n", "M48\n^L7,0\n%\nM30\n"));
        Check.test("7: each L line must be one, not the last one alone", () ->
                wrong("M48\n^L0,8\nL0,1\n%\nM30\n", "M48\nL0,1\n^L1,0\nL0,1\n%\nM30\n", LAYERS + "^L3,8\n%\nM30\n"));
        Check.test("7: a layer of seven digits, and of eight", () -> {
            right("M48\nL0000001,0000002\n%\nM30\n", 0);
            wrong("M48\nL0000000^1,2\n%\nM30\n", "M48\nL1,0000000^2\n%\nM30\n");
        });
        Check.test("7: a layer without digits, or with a - ahead", () -> wrong("M48\nL^,2\n", "M48\nL1,^\n",
                "M48\nL^-0,2\n%\nM30\n", "M48\nL0,^-0\n%\nM30\n", "M48\nL0,^-1\n%\nM30\n"));
        Check.test("7: two layers, with a comma", () ->
                wrong("M48\nL1^\n%\nM30\n", "M48\nL1^.2\n%\nM30\n", "M48\nL1,2^,3\n%\nM30\n", "M48\nL1^ ,2\n"));
        Check.test("7: no TOOLS, no HITS", () -> right(LAYERS + "%\nM30\n", 0));
        Check.test("7: the parts come in their order", () -> wrong("^%\nM30\n", "^L1,2\n", "M^30\n", "M48\n^M48\nL1,2\n",
                LAYERS + "^M48\n", LAYERS + "^M30\n", LAYERS + "^X0Y0\n", TOOLS + "^%\nM30\n", TOOLS + "M^48\n"));
    }

    private static void lastLayers() {
        DrillArchive a = new DrillArchive();
        Check.put(a, "M48\nL0,7\nL7,7\nL3,5\nT0C5P\n%\nT0\nX1Y1\nM30\n");
        Check.due("read", a.read(), 1);
        Check.due("from", a.at(0, 5), 3);
        Check.due("to", a.at(0, 6), 5);
    }

    private static void toolLines() {
        Check.test("7: the least and the largest diameter", () -> {
            right(LAYERS + "T0C1P\nT1C10000N\n%\nM30\n", 0);
            right(LAYERS + "T0C0000001P\nT1C0010000N\n%\nM30\n", 0);
        });
        Check.test("7: a diameter that is none", () -> wrong(LAYERS + "^T0C0P\n%\nM30\n", LAYERS + "^T0C0000000N\n%\nM30\n",
                LAYERS + "^T0C10001P\n%\nM30\n", LAYERS + "T0C5P\n^T1C9999999N\n%\nM30\n"));
        Check.test("7: a TOOL's number that is not the next one", () -> wrong(LAYERS + "^T1C5P\n%\nM30\n",
                LAYERS + "T0C5P\n^T0C5P\n%\nM30\n", LAYERS + "T0C5P\n^T2C5P\n%\nM30\n",
                LAYERS + "T0C5P\nT1C5P\n^T0C5P\n%\nM30\n", LAYERS + "^T9999999C5P\n%\nM30\n"));
        Check.test("7: ten TOOLS, and an 11th", () -> {
            right(ten() + "%\nT9\nX0Y0\nM30\n", 1);
            wrong(ten() + "^T10C1P\n%\nM30\n", ten() + "^T0C1P\n%\nM30\n");
        });
        Check.test("7: a TOOL's number of seven digits, and of eight", () -> {
            right(LAYERS + "T0000000C5P\nT0000001C5P\n%\nM30\n", 0);
            wrong(LAYERS + "T0000000^0C5P\n%\nM30\n");
        });
        Check.test("7: a diameter of seven digits, and of eight", () -> {
            right(LAYERS + "T0C0000005P\n%\nM30\n", 0);
            wrong(LAYERS + "T0C0000000^5P\n%\nM30\n");
        });
        Check.test("7: a number without digits, or with a - ahead", () -> wrong(LAYERS + "T^C5P\n", LAYERS + "T0C^P\n",
                LAYERS + "T^-0C5P\n%\nM30\n", LAYERS + "T0C^-5P\n%\nM30\n"));
        Check.test("7: P or N, and one of them", () -> wrong(LAYERS + "T0C5^\n%\nM30\n", LAYERS + "T0C5^X\n%\nM30\n",
                LAYERS + "T0C5P^P\n%\nM30\n", LAYERS + "T0C5P^N\n%\nM30\n", LAYERS + "T0C5N^P\n%\nM30\n"));
        Check.test("7: a TOOL without a diameter", () -> wrong(LAYERS + "T0^\n%\nM30\n", LAYERS + "T0^P\n%\nM30\n"));
    }

    private static String ten() {
        StringBuilder text = new StringBuilder(LAYERS);
        for (int tool = 0; tool < 10; tool++) {
            text.append("T").append(tool).append("C1P\n");
        }
        return text.toString();
    }

    private static void choices() {
        Check.test("7: TOOLS of the second part in any order, several times, without HITS", () -> {
            right(TOOLS + "T1\nT0\nM30\n", 0);
            right(TOOLS + "T0\nT0\nT1\nT1\nT0\nM30\n", 0);
            right(TOOLS + "T1\nX1Y1\nT0\nT1\nX2Y2\nM30\n", 2);
        });
        Check.test("7: a TOOL's number that was not told", () -> wrong(LAYERS + "%\n^T0\nM30\n", TOOLS + "^T2\nM30\n",
                CHOSEN + "^T9999999\nM30\n", ten() + "%\n^T10\nM30\n", CHOSEN + "X0Y0\n^T2\nX0Y0\nM30\n"));
        Check.test("7: of seven digits, and of eight", () -> {
            right(TOOLS + "T0000001\nX0Y0\nM30\n", 1);
            wrong(TOOLS + "T0000000^1\nX0Y0\nM30\n");
        });
        Check.test("7: without digits, or with a - ahead", () -> wrong(TOOLS + "T^\nM30\n", TOOLS + "T^-0\nM30\n"));
        Check.test("7: a TOOL has its diameter in the first part alone", () -> wrong(TOOLS + "T0^C5P\nM30\n"));
        Check.test("7: no HIT ahead of the first T line", () ->
                wrong(TOOLS + "^X0Y0\nM30\n", TOOLS + "^X0Y0G85X1Y1\nM30\n", LAYERS + "%\n^X0Y0\nM30\n"));
    }

    private static void hitLines() {
        Check.test("7: the last places, on both sides", () -> {
            right(CHOSEN + "X1000000Y1000000\nX-1000000Y-1000000\nM30\n", 2);
            right(CHOSEN + "X1000000Y-1000000G85X-1000000Y1000000\nM30\n", 1);
        });
        Check.test("7: the first that are no places, on both sides, each of the four", () -> {
            String[] far = {"1000001", "-1000001", "9999999", "-9999999"};
            for (String place : far) {
                wrong(CHOSEN + "^X" + place + "Y0\nM30\n", CHOSEN + "^X0Y" + place + "\nM30\n",
                        CHOSEN + "^X" + place + "Y0G85X1Y1\nM30\n", CHOSEN + "^X0Y" + place + "G85X1Y1\nM30\n",
                        CHOSEN + "^X0Y0G85X" + place + "Y1\nM30\n", CHOSEN + "^X0Y0G85X1Y" + place + "\nM30\n",
                        CHOSEN + "X0Y0\nX1Y1\n^X" + place + "Y0\nM30\n");
            }
        });
        Check.test("7: leading zeros may be, -0 too", BoundsReadTest::leadingZeros);
        Check.test("7: seven digits, and eight, each of the four", () -> {
            right(CHOSEN + "X0000001Y-0000002G85X-0000003Y0000004\nM30\n", 1);
            wrong(CHOSEN + "X0000000^1Y2\nM30\n", CHOSEN + "X1Y0000000^2\nM30\n",
                    CHOSEN + "X1Y2G85X0000000^3Y4\nM30\n", CHOSEN + "X1Y2G85X3Y0000000^4\nM30\n",
                    CHOSEN + "X-0000000^1Y2\nM30\n", CHOSEN + "X1Y-0000000^2\nM30\n", CHOSEN + "X1000000^0Y2\nM30\n");
        });
        Check.test("7: no digits, each of the four", () -> wrong(CHOSEN + "X^Y2\nM30\n", CHOSEN + "X1Y^\nM30\n",
                CHOSEN + "X1Y2G85X^Y4\nM30\n", CHOSEN + "X1Y2G85X3Y^\nM30\n", CHOSEN + "X-^Y2\nM30\n",
                CHOSEN + "X1Y-^\nM30\n"));
        Check.test("7: one - ahead, and nothing else", () -> wrong(CHOSEN + "X-^-1Y2\nM30\n", CHOSEN + "X^+1Y2\nM30\n",
                CHOSEN + "X1^-Y2\nM30\n", CHOSEN + "X1Y^ 2\nM30\n", CHOSEN + "X1Y2G85X-^-3Y4\nM30\n"));
        Check.test("7: a slot with one place, however it is written", () -> wrong(CHOSEN + "^X1Y2G85X1Y2\nM30\n",
                CHOSEN + "^X1Y2G85X01Y0002\nM30\n", CHOSEN + "^X0Y-0G85X-0Y0\nM30\n",
                CHOSEN + "X1Y2G85X2Y1\n^X-1000000Y5G85X-1000000Y5\nM30\n"));
        Check.test("7: a slot whose places differ along x alone, or y alone", () ->
                right(CHOSEN + "X1Y2G85X2Y2\nX1Y2G85X1Y1\nX1Y1G85X-1Y1\nM30\n", 3));
        Check.test("7: G85, and one other place", () -> wrong(CHOSEN + "X1Y2G^X3Y4\n", CHOSEN + "X1Y2G8^4X3Y4\n",
                CHOSEN + "X1Y2G8^X3Y4\n", CHOSEN + "X1Y2G85^\n", CHOSEN + "X1Y2G85^Y4\n", CHOSEN + "X1Y2G85X3^\n",
                CHOSEN + "X1Y2G85X3Y4^G85X5Y6\n", CHOSEN + "X1Y2^X3Y4\n"));
        Check.test("7: x, then y", () -> wrong(CHOSEN + "^Y2X1\nM30\n", CHOSEN + "X1^\nM30\n", CHOSEN + "X1^X2\nM30\n"));
        Check.test("7: sixty HITS, and a 61st", () -> {
            String sixty = CHOSEN + "X0Y0\n".repeat(60);
            right(sixty + "M30\n", 60);
            right(sixty + "T1\nM30\n", 60);
            wrong(sixty + "^X0Y0\nM30\n", sixty + "T1\n^X0Y0G85X1Y1\nM30\n");
        });
        Check.test("7: a line that is none by its form tells that, whatever its numbers are", () -> {
            wrong(CHOSEN + "X1000001Y0^Q\nM30\n", LAYERS + "T5C0^Q\n%\nM30\n", "M48\nL9,8^Q\n", TOOLS + "T7^Q\nM30\n");
            wrongAt("M48\nL0,8", 8);
            wrongAt(CHOSEN + "X1000001Y0", CHOSEN.length() + 10);
        });
    }

    private static void leadingZeros() {
        DrillArchive a = new DrillArchive();
        Check.put(a, "M48\nL01,002\nT00C0007P\n%\nT000\nX-0Y-0000000\nX-007Y0010\nX00Y-0G85X-00Y-01\nM30\n");
        Check.due("read", a.read(), 3);
        long[][] want = {{0, 0, 0, 0, 0, 1, 2, 0}, {0, -7, 10, -7, 10, 1, 2, 0}, {0, 0, 0, 0, -1, 0, 7, 1}};
        for (int k = 0; k < 3; k++) {
            for (int what = 0; what < 8; what++) {
                Check.due("at(" + k + ", " + what + ")", a.at(k, what), want[k][what]);
            }
        }
        Check.due("written without them", Check.written(a, 12),
                "M48\nL1,2\nT0C7P\n%\nT0\nX0Y0\nX-7Y10\nM30\n");
    }

    private static void becoming() {
        Check.test("7: how many HITS: none, one, several", () -> {
            right(TOOLS + "M30\n", 0);
            right(CHOSEN + "X1Y1\nM30\n", 1);
            right(CHOSEN + "X1Y1\nX1Y1\nT1\nX1Y1G85X2Y2\nM30\n", 3);
        });
        Check.test("7: the text becomes all TOOLS and HITS, FILES and what was fed stay", BoundsReadTest::becomesAll);
        Check.test("7: the text is gone once it is read, and the next one begins anew", () -> {
            DrillArchive a = new DrillArchive();
            Check.put(a, CHOSEN + "X1Y1\nM30\n");
            Check.due("read", a.read(), 1);
            Check.due("nothing left", a.read(), -1);
            Check.due("its hit stays then", a.at(0, 1), 1);
            Check.put(a, LAYERS + "%\nM30\n");
            Check.due("the next one", a.read(), 0);
            Check.dueThrow("its hits are none", Check.INDEX, () -> a.at(0, 1));
        });
        Check.test("7: a text without TOOLS leaves none", () -> {
            String made = Whole.of(a -> {
                a.tool(5, true);
                a.slot(0, 1, 1, 2, 2);
                Made.put(a, LAYERS + "%\nM30\n");
                a.read();
            });
            Check.same("as a new object", made, Whole.of(a -> { }));
        });
        Check.test("7: there is room for the rest up to 10 TOOLS and 60 HITS behind it", BoundsReadTest::roomBehind);
        Check.test("7: a TEXT that is written is read again", BoundsReadTest::writtenAndRead);
    }

    private static void becomesAll() {
        String read = Whole.of(a -> {
            Made.some(a);
            a.read();
        });
        String made = Whole.of(a -> {
            a.tool(9, false);
            a.hole(0, -8, 8, 2, 3);
            a.slot(0, 1, 1, 2, 2);
            a.file(4);
            a.file(1);
            Made.fill(a, 0, "M48\nL0,4\nT0C300P\nT1C50N\nT2C1P\n%\nM30\n");
            a.byteOf(1, 200);
            a.byteOf(1, 100);
            Made.feed(a, "1 6 2 0 7 255 5 2");
        });
        Check.same("as if made by calls", read, made);
    }

    private static void roomBehind() {
        DrillArchive a = new DrillArchive();
        Check.put(a, ten() + "%\nT9\n" + "X0Y0\n".repeat(58) + "M30\n");
        Check.due("read", a.read(), 58);
        Check.due("an 11th tool", a.tool(1, true), DrillArchive.NONE);
        Check.due("the 59th hit", a.hole(0, 0, 0, 0, 0), 58);
        Check.due("the 60th hit", a.slot(0, 0, 0, 0, 1), 59);
        Check.due("a 61st hit", a.hole(0, 0, 0, 0, 0), DrillArchive.NONE);
    }

    private static void writtenAndRead() {
        DrillArchive a = new DrillArchive();
        Made.tools(a, 3);
        a.hole(2, -1_000_000, 1_000_000, 0, 7);
        a.slot(2, 0, -3, 40, 500);
        a.hole(0, 7, -7, 0, 7);
        a.hole(0, 6, 6, 0, 7);
        String text = Check.written(a, 7);
        DrillArchive b = new DrillArchive();
        Check.put(b, text);
        Check.due("read", b.read(), 4);
        Check.due("written again", Check.written(b, 7), text);
        Check.due("travel of tool 0", b.travel(0), a.travel(0));
        Check.due("travel of tool 2", b.travel(2), a.travel(2));
    }

    private static void staying() {
        String[] texts = {
            "", "M", "^", "M48\n%\n", "M48\nL0,8\n", "M48\nL1,0\n", LAYERS + "T1C5P\n", LAYERS + "T0C0P\n",
            ten() + "T10C1P\n", LAYERS + "T0C5P\nL1,2\n", TOOLS + "T2\n", TOOLS + "X0Y0\n", CHOSEN + "X1000001Y0\n",
            CHOSEN + "X0Y0\nX5Y5G85X5Y5\n", CHOSEN + "X0Y0\nT1\nX1Y1\n", CHOSEN + "X0Y0\nM30", CHOSEN + "X0Y0\nM30\n\n",
            CHOSEN + "X0Y0\n".repeat(55) + "X0Y00000000\n"
        };
        for (String text : texts) {
            Check.test("7: a read that fails: then all stays: " + text, () ->
                    Check.refused("read of " + text, a -> {
                        Made.withoutText(a);
                        Made.put(a, text);
                    }, a -> a.read() < 0 ? -1 : 0, "-1"));
        }
        Check.test("7: the text stays too: what comes behind makes it right", () -> {
            DrillArchive a = new DrillArchive();
            String text = CHOSEN + "X0Y0\nX-5Y5\nM30\n";
            for (int i = 0; i < text.length(); i++) {
                Check.due("read of " + i, a.read(), -1 - i);
                Check.due("unit", a.unit(text.charAt(i)), true);
            }
            Check.due("read of all", a.read(), 2);
        });
        Check.test("7: the text stays too: what comes behind does not make it right", () -> {
            DrillArchive a = new DrillArchive();
            Check.put(a, "M48\nL0,8\n");
            Check.due("read", a.read(), -1 - 4);
            Check.put(a, LAYERS + "%\nM30\n");
            Check.due("read", a.read(), -1 - 4);
        });
    }
}
