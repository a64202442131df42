import java.util.Arrays;
import java.util.function.Consumer;

/** Every boundary that promises 12 to 20 name, a sentence each: files, archives, what they tell, clear. */
public final class BoundsFilesTest {
    private static final int NONE = DrillArchive.NONE;
    private static final int[] NO_BYTES = {-1, 256, 257, 512, -256, Integer.MAX_VALUE, Integer.MIN_VALUE};
    private static final int[] NO_FILES_OF_TWO = {-1, 2, 4, 7, 8, Integer.MAX_VALUE, Integer.MIN_VALUE};
    private static final String EIGHT = "8 7 0 0 0 0 6 0 0 0 0 5 0 0 0 0 4 0 0 0 0"
            + " 3 0 0 0 0 2 0 0 0 0 1 0 0 0 0 0 0 0 0 0";

    public static void main(String[] args) {
        files();
        bytes();
        archives();
        feeding();
        opening();
        notOpened();
        agreeing();
        sums();
        clearing();
        Check.end("BoundsFilesTest");
    }

    private static void files() {
        Check.test("12: the first and the last ROLE", () -> {
            DrillArchive a = new DrillArchive();
            Check.due("file(7)", a.file(7), 0);
            Check.due("file(0)", a.file(0), 1);
            Check.due("archive", Check.joined(a), "2 7 0 0 0 0 0 0 0 0 0");
        });
        Check.test("12: what is no ROLE", () -> {
            int[] none = {-1, 8, 9, 256, Integer.MAX_VALUE, Integer.MIN_VALUE};
            for (int role : none) {
                Check.refused("file(" + role + ")", Made::some, a -> a.file(role), Check.ARGUMENT);
            }
        });
        Check.test("12: a ROLE that one has", () -> {
            Check.refused("file(4)", Made::some, a -> a.file(4), "-1");
            Check.refused("file(1)", Made::some, a -> a.file(1), "-1");
        });
        Check.test("12: eight FILES, each ROLE once, then each is had", BoundsFilesTest::eightFiles);
        Check.test("12: no ROLE, also when there are eight FILES", () ->
                Check.refused("file(8)", BoundsFilesTest::allRoles, a -> a.file(8), Check.ARGUMENT));
    }

    private static void allRoles(DrillArchive a) {
        for (int role = 7; role >= 0; role--) {
            a.file(role);
        }
    }

    private static void eightFiles() {
        DrillArchive a = new DrillArchive();
        for (int number = 0; number < 8; number++) {
            Check.due("file(" + (7 - number) + ")", a.file(7 - number), number);
            Check.due("its role again", a.file(7 - number), NONE);
        }
        for (int role = 0; role < 8; role++) {
            Check.due("file(" + role + ")", a.file(role), NONE);
        }
        Check.due("the eighth file is there", a.byteOf(7, 1), true);
        Check.dueThrow("no ninth", Check.INDEX, () -> a.byteOf(8, 1) ? 1 : 0);
    }

    private static void bytes() {
        Check.test("13: the first and the last byte, 0 and 255", () -> {
            DrillArchive a = new DrillArchive();
            a.file(5);
            Check.due("byteOf(0, 0)", a.byteOf(0, 0), true);
            Check.due("byteOf(0, 255)", a.byteOf(0, 255), true);
            Check.due("archive", Check.joined(a), "1 5 2 0 0 255 254 1");
        });
        Check.test("13: what is no byte", () -> {
            for (int b : NO_BYTES) {
                Check.refused("byteOf(1, " + b + ")", Made::some, a -> a.byteOf(1, b) ? 1 : 0, Check.ARGUMENT);
            }
        });
        Check.test("13: no such FILE", () -> {
            for (int file : NO_FILES_OF_TWO) {
                Check.refused("byteOf(" + file + ", 1)", Made::some, a -> a.byteOf(file, 1) ? 1 : 0, Check.INDEX);
            }
        });
        Check.test("13: no such FILE, and no byte as well", () ->
                Check.refused("byteOf(2, 256)", Made::some, a -> a.byteOf(2, 256) ? 1 : 0, Check.INDEX));
        Check.test("13: the 300th byte", () -> {
            DrillArchive a = new DrillArchive();
            Made.file(a, 299, 0);
            Check.due("the 300th", a.byteOf(0, 77), true);
            Check.due("length modulo 256", a.archive(2), 300 - 256);
            Check.due("length by 256", a.archive(3), 1);
            Check.due("its place", a.archive(4 + 299), 77);
            Check.due("its sum", a.sum(0), 77 * 300);
        });
        Check.test("13: false when it has 300", () ->
                Check.refused("the 301st", a -> Made.file(a, 300, 9), a -> a.byteOf(0, 9) ? 1 : 0, "0"));
        Check.test("13: no byte, also when it has 300", () ->
                Check.refused("the 301st", a -> Made.file(a, 300, 9), a -> a.byteOf(0, 256) ? 1 : 0, Check.ARGUMENT));
        Check.test("13: a FILE that has 300 takes nothing from the others", () -> {
            DrillArchive a = new DrillArchive();
            Made.file(a, 300, 9);
            a.file(3);
            Check.due("the other file", a.byteOf(1, 200), true);
            Check.due("its sum", a.sum(1), 200);
        });
    }

    private static void archives() {
        Check.test("14: without FILES: 0, NONE behind it", () -> {
            DrillArchive a = new DrillArchive();
            Check.due("archive(0)", a.archive(0), 0);
            Check.due("archive(1)", a.archive(1), NONE);
            Check.due("archive(far behind)", a.archive(Integer.MAX_VALUE), NONE);
        });
        Check.test("14: i below 0", () -> {
            Check.refused("archive(-1)", Made::some, a -> a.archive(-1), Check.INDEX);
            Check.refused("archive(far below)", Made::some, a -> a.archive(Integer.MIN_VALUE), Check.INDEX);
            Check.refused("archive(-1) of nothing", a -> { }, a -> a.archive(-1), Check.INDEX);
        });
        Check.test("14: the first and the last byte, NONE behind it", () -> {
            DrillArchive a = new DrillArchive();
            a.file(6);
            a.byteOf(0, 9);
            Check.due("archive(0)", a.archive(0), 1);
            Check.due("archive(6)", a.archive(6), 0);
            Check.due("archive(7)", a.archive(7), NONE);
            Check.due("archive(far behind)", a.archive(Integer.MAX_VALUE), NONE);
        });
        Check.test("14: a FILE that is empty", () -> {
            DrillArchive a = new DrillArchive();
            a.file(6);
            Check.due("archive", Check.joined(a), "1 6 0 0 0 0");
        });
        Check.test("14: FILES in order of their numbers, not of their ROLES", () -> {
            DrillArchive a = new DrillArchive();
            allRoles(a);
            Check.due("archive", Check.joined(a), EIGHT);
        });
        Check.test("14: a length of 255, 256, 257, 300", () -> {
            length(255, 255, 0);
            length(256, 0, 1);
            length(257, 1, 1);
            length(300, 44, 1);
        });
        Check.test("14: a SUM of 255, 256, 65,520 and 0 again", () -> {
            sumBytes(new int[] {255}, 255, 0);
            sumBytes(new int[] {0, 128}, 0, 1);
            sumBytes(wrapping(242), 240, 255);
            sumBytes(wrapping(243), 0, 0);
            sumBytes(wrapping(244), 1, 0);
        });
    }

    private static void length(int length, int low, int high) {
        DrillArchive a = new DrillArchive();
        Made.file(a, length, 0);
        a.file(6);
        Check.due("length modulo 256", a.archive(2), low);
        Check.due("length by 256", a.archive(3), high);
        Check.due("its last sum byte", a.archive(3 + length + 2), 0);
        Check.due("the next file's role", a.archive(3 + length + 3), 6);
        Check.due("the last byte", a.archive(3 + length + 7), 0);
        Check.due("behind it", a.archive(3 + length + 8), NONE);
    }

    /** 257 bytes with the sum first + 254 * 257, that is first + 65,278: 65,521 for 243. */
    private static int[] wrapping(int first) {
        int[] bytes = new int[257];
        bytes[0] = first;
        bytes[256] = 254;
        return bytes;
    }

    private static DrillArchive filled(int[] bytes) {
        DrillArchive a = new DrillArchive();
        a.file(2);
        for (int b : bytes) {
            Check.due("byteOf(0, " + b + ")", a.byteOf(0, b), true);
        }
        return a;
    }

    private static void sumBytes(int[] bytes, int low, int high) {
        DrillArchive a = filled(bytes);
        Check.due("sum modulo 256", a.archive(4 + bytes.length), low);
        Check.due("sum by 256", a.archive(5 + bytes.length), high);
        Check.due("behind it", a.archive(6 + bytes.length), NONE);
    }

    private static void feeding() {
        Check.test("15: the first and the last byte, 0 and 255", () -> {
            DrillArchive a = new DrillArchive();
            Check.due("feed(0)", a.feed(0), true);
            Check.due("feed(255)", a.feed(255), true);
        });
        Check.test("15: what is no byte is not fed", () -> {
            for (int b : NO_BYTES) {
                Check.refused("feed(" + b + ")", Made::some, a -> a.feed(b) ? 1 : 0, "0");
            }
        });
        // No object's 512 calls get so far, so this limit is kept without being promised.
        Check.test("15: 2,600 bytes, and no more", () -> {
            DrillArchive a = new DrillArchive();
            for (int i = 0; i < 2_600; i++) {
                Check.due("feed " + i, a.feed(0), true);
            }
            Check.due("feed 2,600", a.feed(0), false);
        });
    }

    private static void opened(String bytes, int files) {
        DrillArchive a = new DrillArchive();
        a.file(3);
        Made.feed(a, bytes);
        Check.due("open of " + bytes, a.open(), files);
        Check.due("archive of " + bytes, Check.joined(a), bytes);
        Check.due("what was fed is gone", a.open(), NONE);
        Check.due("the files stay then", a.archive(0), files);
    }

    private static void opening() {
        Check.test("16: no FILES: how many is 0, and those that were are gone", () -> opened("0", 0));
        Check.test("16: one FILE, empty", () -> opened("1 0 0 0 0 0", 1));
        Check.test("16: the last ROLE", () -> opened("1 7 1 0 255 255 0", 1));
        Check.test("16: eight FILES, in any order of ROLES", () -> opened(EIGHT, 8));
        Check.test("16: 300 bytes", BoundsFilesTest::threeHundred);
        Check.test("16: a SUM above 255", () -> opened("1 2 2 0 200 100 144 1", 1));
        Check.test("16: a SUM of 65,520, and one that wraps around", () -> {
            openedAgain(wrapping(242));
            openedAgain(wrapping(243));
            openedAgain(wrapping(244));
        });
        Check.test("16: what was fed becomes all FILES, the rest stays", BoundsFilesTest::becomesAll);
        Check.test("16: FILES that were opened grow on", () -> {
            DrillArchive a = new DrillArchive();
            Made.feed(a, "2 5 0 0 0 0 1 2 0 200 100 144 1");
            Check.due("open", a.open(), 2);
            Check.due("byteOf(1, 3)", a.byteOf(1, 3), true);
            Check.due("sum(1)", a.sum(1), 409);
            Check.due("file(1)", a.file(1), NONE);
            Check.due("file(0)", a.file(0), 2);
        });
    }

    private static void threeHundred() {
        DrillArchive a = new DrillArchive();
        Made.feed(a, "1 6 44 1" + " 1".repeat(300) + " 94 176");
        Check.due("open", a.open(), 1);
        Check.due("sum", a.sum(0), 45_150);
        Check.due("the last byte", a.archive(3 + 300), 1);
        Check.due("a 301st byte", a.byteOf(0, 1), false);
    }

    private static void openedAgain(int[] bytes) {
        StringBuilder joined = new StringBuilder("1 2 1 1");
        int sum = 0;
        for (int i = 0; i < bytes.length; i++) {
            joined.append(" ").append(bytes[i]);
            sum += bytes[i] * (i + 1);
        }
        sum %= 65_521;
        DrillArchive a = new DrillArchive();
        Made.feed(a, joined + " " + sum % 256 + " " + sum / 256);
        Check.due("open", a.open(), 1);
        Check.due("sum", a.sum(0), sum);
    }

    private static void becomesAll() {
        String open = Whole.of(a -> {
            Made.some(a);
            a.open();
        });
        String made = Whole.of(a -> {
            a.tool(300, true);
            a.tool(50, false);
            a.tool(1, true);
            a.hole(0, 10, 0, 0, 1);
            a.hole(0, -5, 3, 0, 1);
            a.hole(1, 3, 0, 1, 2);
            a.slot(0, 5, 5, 5, -20);
            a.slot(1, -7, 2, 6, -21);
            a.file(6);
            a.byteOf(0, 7);
            a.byteOf(0, 255);
            Made.put(a, "M48\nL2,3\nT0C9N\n%\nT0\nX-8Y8\nX1Y1G85X2Y2\nM30\n");
        });
        Check.same("as if made by calls", open, made);
    }

    /** It is no archive: NONE, what was fed is gone, and all else is as if it had never been fed. */
    private static void none(String... all) {
        for (String bytes : all) {
            Check.refused("open of " + bytes, BoundsFilesTest::nothingFed, a -> {
                Made.feed(a, bytes);
                return a.open();
            }, "-1");
        }
    }

    private static void nothingFed(DrillArchive a) {
        a.tool(300, true);
        a.hole(0, 10, 0, 0, 1);
        a.file(3);
        a.byteOf(0, 7);
        a.unit('M');
    }

    private static void notOpened() {
        Check.test("16: nothing was fed", () -> none(""));
        Check.test("16: its length: it breaks off", () -> {
            String[] bytes = "2 5 3 0 1 2 3 14 0 1 0 0 0 0".split(" ");
            for (int length = 0; length < bytes.length; length++) {
                none(String.join(" ", Arrays.copyOf(bytes, length)));
            }
            opened(String.join(" ", bytes), 2);
        });
        Check.test("16: its length: a byte too many", () ->
                none("0 0", "1 5 0 0 0 0 0", "1 5 1 0 9 9 0 1", "0 1 5 0 0 0 0", EIGHT + " 0"));
        Check.test("16: its length: more bytes or fewer than told", () -> none("1 5 2 0 9 9 0", "1 5 0 0 9 9 0", "1 5 0 1 0 0"));
        Check.test("16: fewer or more FILES than told", () ->
                none("2 5 0 0 0 0", "1 5 0 0 0 0 6 0 0 0 0", "8 5 0 0 0 0", "7" + EIGHT.substring(1)));
        Check.test("16: a ROLE that is none", () -> none("1 8 0 0 0 0", "1 255 0 0 0 0", "2 5 0 0 0 0 8 0 0 0 0"));
        Check.test("16: a ROLE that comes twice", () ->
                none("2 5 0 0 0 0 5 0 0 0 0", "3 5 0 0 0 0 6 0 0 0 0 5 0 0 0 0", "2 0 1 0 4 4 0 0 1 0 5 5 0"));
        Check.test("16: more than 8 FILES", () -> none("9" + EIGHT.substring(1), "9" + EIGHT.substring(1) + " 0 0 0 0 0",
                "9" + EIGHT.substring(1) + " 8 0 0 0 0", "255", "9"));
        Check.test("16: more than 300 bytes", () -> none("1 5 45 1" + " 0".repeat(301) + " 0 0",
                "1 5 255 255 0 0", "1 5 44 2 0 0"));
        Check.test("16: a SUM that differs, low or high", () -> none("1 5 0 0 1 0", "1 5 0 0 0 1", "1 5 1 0 9 8 0",
                "1 5 1 0 9 10 0", "1 5 1 0 9 9 1", "1 5 2 0 200 100 1 144", "2 5 0 0 0 0 6 1 0 7 8 0"));
        Check.test("16: a SUM that is not taken modulo 65,521", () -> none("1 5 0 0 241 255", "1 5 1 0 14 255 255"));
        Check.test("16: what was fed is gone in any case, the next one begins anew", () -> {
            DrillArchive a = new DrillArchive();
            Made.feed(a, "1 5");
            Check.due("broken off", a.open(), NONE);
            Made.feed(a, "0 0 0 0");
            Check.due("the rest is none", a.open(), NONE);
            Made.feed(a, "1 5 0 0 0 0");
            Check.due("the whole is one", a.open(), 1);
            Check.due("which is gone too", a.open(), NONE);
            Check.due("its file stays", a.sum(0), 0);
        });
    }

    private static String text(int role) {
        return "M48\nL0," + role + "\nT0C300P\n%\n" + (role == 1 ? "T0\nX10Y0\n" : "") + "M30\n";
    }

    /** A tool, a hole of layers 0 to 1, and files of these roles whose bytes are the texts. */
    private static DrillArchive agreed(int... roles) {
        DrillArchive a = new DrillArchive();
        a.tool(300, true);
        a.hole(0, 10, 0, 0, 1);
        for (int number = 0; number < roles.length; number++) {
            a.file(roles[number]);
            Made.fill(a, number, text(roles[number]));
        }
        return a;
    }

    private static void told(DrillArchive a, int... roles) {
        Check.due("agrees", a.agrees(), roles.length == 0);
        for (int k = 0; k < roles.length; k++) {
            Check.due("told(" + k + ")", a.told(k), roles[k]);
        }
        Check.due("told past the end", a.told(roles.length), NONE);
    }

    private static void agreeing() {
        Check.test("17, 18: without FILES", () -> {
            told(new DrillArchive());
            told(agreed());
        });
        Check.test("17, 18: a FILE that is empty is no TEXT", () -> {
            DrillArchive a = new DrillArchive();
            a.file(0);
            told(a, 0);
        });
        Check.test("17, 18: a FILE whose bytes are the TEXT, of each ROLE", () -> {
            for (int role = 0; role < 8; role++) {
                told(agreed(role));
            }
        });
        Check.test("17, 18: all eight ROLES, agreeing", () -> told(agreed(7, 2, 5, 0, 1, 6, 3, 4)));
        Check.test("17, 18: the TEXT of layers 0 to another ROLE", () -> {
            DrillArchive a = agreed();
            a.file(4);
            Made.fill(a, 0, text(5));
            told(a, 4);
        });
        Check.test("17, 18: one byte that differs, first, last and between", BoundsFilesTest::oneByteDiffers);
        Check.test("17, 18: a byte too few, a byte too many", () -> {
            DrillArchive a = agreed();
            a.file(6);
            Made.fill(a, 0, text(6).substring(0, text(6).length() - 1));
            told(a, 6);
            a.byteOf(0, 10);
            told(a);
            a.byteOf(0, 10);
            told(a, 6);
        });
        Check.test("17, 18: a byte that is no character, the same modulo 128", () -> {
            DrillArchive a = agreed();
            a.file(6);
            a.byteOf(0, 'M' + 128);
            Made.fill(a, 0, text(6).substring(1));
            told(a, 6);
        });
        Check.test("17, 18: 300 bytes of a TEXT that is longer, and of one that is not", BoundsFilesTest::longTexts);
        Check.test("17, 18: TOOLS and HITS that change", () -> {
            DrillArchive a = agreed(3, 1);
            told(a);
            a.hole(0, 20, 0, 1, 3);
            told(a);
            a.hole(0, 20, 0, 0, 3);
            told(a, 3);
            a.tool(1, false);
            told(a, 1, 3);
        });
        Check.test("18: ROLES rising, whatever the FILES' numbers are", () -> {
            DrillArchive a = agreed();
            int[] roles = {3, 7, 0, 5};
            for (int role : roles) {
                a.file(role);
            }
            told(a, 0, 3, 5, 7);
        });
        Check.test("18: all eight ROLES, and no more", () -> {
            DrillArchive a = agreed();
            allRoles(a);
            told(a, 0, 1, 2, 3, 4, 5, 6, 7);
        });
        Check.test("18: k below 0, k past the end", () -> {
            DrillArchive a = agreed();
            allRoles(a);
            int[] none = {-1, -8, Integer.MIN_VALUE, 8, 9, Integer.MAX_VALUE};
            for (int k : none) {
                Check.due("told(" + k + ")", a.told(k), NONE);
            }
        });
    }

    private static void oneByteDiffers() {
        int length = text(1).length();
        for (int place = 0; place < length; place++) {
            DrillArchive a = agreed();
            a.file(1);
            for (int i = 0; i < length; i++) {
                a.byteOf(0, i == place ? text(1).charAt(i) ^ 1 : text(1).charAt(i));
            }
            told(a, 1);
        }
    }

    private static void longTexts() {
        Check.due("300 characters, 300 bytes", agreesWithLong(1_000_000, 300), true);
        Check.due("301 characters, 300 bytes", agreesWithLong(-1_000_000, 301), false);
    }

    /** A text of layers 0 to 7 whose first hole's x tells its length, and a file with its first 300 characters. */
    private static boolean agreesWithLong(int x, int length) {
        DrillArchive a = new DrillArchive();
        a.tool(10_000, true);
        a.hole(0, x, 1_000_000, 0, 7);
        for (int k = 1; k < 16; k++) {
            a.hole(0, 1_000_000, 1_000_000, 0, 7);
        }
        String text = "M48\nL0,7\nT0C10000P\n%\nT0\nX" + x + "Y1000000\n" + "X1000000Y1000000\n".repeat(15) + "M30\n";
        Check.due("its length", text.length(), length);
        Check.due("the last character", a.write(7, length - 1), 10);
        Check.due("behind it", a.write(7, length), NONE);
        a.file(7);
        Made.fill(a, 0, text.substring(0, 300));
        Check.due("told(0)", a.told(0), a.agrees() ? NONE : 7);
        return a.agrees();
    }

    private static void sums() {
        Check.test("19: the SUM of an empty FILE", () -> Check.due("sum", filled(new int[0]).sum(0), 0));
        Check.test("19: each byte times its place, from 1 on", () -> {
            Check.due("sum", filled(new int[] {1}).sum(0), 1);
            Check.due("sum", filled(new int[] {0, 1}).sum(0), 2);
            Check.due("sum", filled(new int[] {5, 7, 9}).sum(0), 5 + 14 + 27);
            Check.due("sum", filled(new int[] {255, 255}).sum(0), 765);
        });
        Check.test("19: 65,520 is the last, then it wraps around at 65,521", () -> {
            Check.due("sum", filled(wrapping(242)).sum(0), 65_520);
            Check.due("sum", filled(wrapping(243)).sum(0), 0);
            Check.due("sum", filled(wrapping(244)).sum(0), 1);
        });
        Check.test("19: the largest SUM of 300 bytes wraps around often", () -> {
            DrillArchive a = new DrillArchive();
            Made.file(a, 300, 255);
            Check.due("sum", a.sum(0), 255L * 45_150 % 65_521);
        });
        Check.test("19: no such FILE", () -> {
            for (int file : NO_FILES_OF_TWO) {
                Check.refused("sum(" + file + ")", Made::some, a -> a.sum(file), Check.INDEX);
            }
            Check.refused("sum(0) of none", a -> { }, a -> a.sum(0), Check.INDEX);
        });
        Check.test("19: the eighth FILE, no ninth", () -> {
            DrillArchive a = new DrillArchive();
            allRoles(a);
            a.byteOf(7, 6);
            Check.due("sum(7)", a.sum(7), 6);
            Check.dueThrow("sum(8)", Check.INDEX, () -> a.sum(8));
        });
    }

    private static void clearing() {
        String atFirst = Whole.of(a -> { });
        Check.test("20: a new object, cleared", () -> Check.same("clear", Whole.of(DrillArchive::clear), atFirst));
        Check.test("20: something of each kind, cleared", () -> cleared(Made::some, atFirst));
        Check.test("20: all TOOLS, cleared", () -> cleared(a -> Made.tools(a, 10), atFirst));
        Check.test("20: all HITS, cleared", () -> cleared(a -> Made.hits(a, 60), atFirst));
        Check.test("20: all FILES, cleared", () -> cleared(BoundsFilesTest::allRoles, atFirst));
        Check.test("20: a FILE with 300 bytes, cleared", () -> cleared(a -> Made.file(a, 300, 9), atFirst));
        Check.test("20: a text that was read, cleared", () -> cleared(a -> {
            Made.some(a);
            a.read();
        }, atFirst));
        Check.test("20: a text that is wrong, cleared", () -> cleared(a -> {
            Made.put(a, "M48\nL0,8\n");
            a.read();
        }, atFirst));
        Check.test("20: an archive that was opened, cleared", () -> cleared(a -> {
            Made.some(a);
            a.open();
        }, atFirst));
        Check.test("20: after questions, cleared", () -> cleared(a -> {
            Made.some(a);
            a.travel(0);
            a.order(1, 0);
            a.write(0, 5);
            a.write(1, 5);
            a.told(0);
        }, atFirst));
        Check.test("20: what comes behind it is as at first", () -> {
            String behind = Whole.of(a -> {
                Made.some(a);
                a.clear();
                Made.some(a);
            });
            Check.same("some, clear, some", behind, Whole.of(Made::some));
        });
        Check.test("20: there is room again for 10 TOOLS, 60 HITS, 8 FILES", () -> {
            DrillArchive a = new DrillArchive();
            for (int round = 0; round < 2; round++) {
                for (int k = 0; k < 10; k++) {
                    Check.due("tool", a.tool(1, true), k);
                }
                for (int k = 0; k < 60; k++) {
                    Check.due("hole", a.hole(9, 0, 0, 0, 0), k);
                }
                for (int k = 0; k < 8; k++) {
                    Check.due("file", a.file(k), k);
                }
                a.clear();
            }
        });
    }

    private static void cleared(Consumer<DrillArchive> made, String atFirst) {
        Check.same("clear", Whole.of(made.andThen(DrillArchive::clear)), atFirst);
    }
}
