/** Promises 12 to 20: file, byteOf, archive, feed, open, agrees, told, sum, clear. */
public final class FilesTest {
    public static void main(String[] args) {
        files();
        bytes();
        sums();
        archives();
        feeding();
        opening();
        notOpened();
        agreeing();
        clearing();
        Check.end("FilesTest");
    }

    private static void files() {
        DrillArchive a = new DrillArchive();
        int[] none = {-1, 8, Integer.MAX_VALUE, Integer.MIN_VALUE};
        for (int role : none) {
            Check.dueThrow("file of role " + role, Check.ARGUMENT, () -> a.file(role));
        }
        for (int number = 0; number < 8; number++) {
            Check.due("file " + number, a.file(7 - number), number);
            Check.due("its role again", a.file(7 - number), DrillArchive.NONE);
        }
        for (int role = 0; role < 8; role++) {
            Check.due("all roles are had", a.file(role), DrillArchive.NONE);
        }
        Check.dueThrow("no role even then", Check.ARGUMENT, () -> a.file(8));
        Check.due("eight empty files", Check.joined(a), "8 7 0 0 0 0 6 0 0 0 0 5 0 0 0 0 4 0 0 0 0"
                + " 3 0 0 0 0 2 0 0 0 0 1 0 0 0 0 0 0 0 0 0");
    }

    private static void bytes() {
        DrillArchive a = new DrillArchive();
        Check.dueThrow("byte of no file", Check.INDEX, () -> a.byteOf(0, 1) ? 1 : 0);
        a.file(2);
        a.file(4);
        int[] noFile = {-1, 2, 8, Integer.MAX_VALUE, Integer.MIN_VALUE};
        for (int file : noFile) {
            Check.dueThrow("byte of file " + file, Check.INDEX, () -> a.byteOf(file, 1) ? 1 : 0);
            Check.dueThrow("and no byte", Check.INDEX, () -> a.byteOf(file, 256) ? 1 : 0);
        }
        int[] noByte = {-1, 256, Integer.MAX_VALUE, Integer.MIN_VALUE};
        for (int b : noByte) {
            Check.dueThrow("byte " + b, Check.ARGUMENT, () -> a.byteOf(0, b) ? 1 : 0);
        }
        for (int i = 0; i < 300; i++) {
            Check.due("byte " + i, a.byteOf(1, i % 256), true);
        }
        Check.due("a 301st byte", a.byteOf(1, 1), false);
        Check.dueThrow("a 301st that is no byte", Check.ARGUMENT, () -> a.byteOf(1, -1) ? 1 : 0);
        Check.due("the other file has room", a.byteOf(0, 255), true);
        Check.due("length modulo 256", a.archive(1 + 6 + 1), 300 - 256);
        Check.due("length by 256", a.archive(1 + 6 + 2), 1);
        Check.due("the last byte", a.archive(1 + 6 + 3 + 299), 299 - 256);
    }

    private static void sums() {
        DrillArchive a = new DrillArchive();
        int[] none = {-1, 0, 8, Integer.MAX_VALUE, Integer.MIN_VALUE};
        for (int file : none) {
            Check.dueThrow("sum of file " + file, Check.INDEX, () -> a.sum(file));
        }
        a.file(0);
        long plain = 0;
        for (int place = 1; place <= 300; place++) {
            a.byteOf(0, 255);
            plain += 255L * place;
            Check.due("sum of " + place, a.sum(0), plain % 65_521);
        }
        a.byteOf(0, 255);
        Check.due("no sum of a byte that is not taken", a.sum(0), plain % 65_521);
        long total = a.sum(0);
        Check.due("sum modulo 256", a.archive(304), total % 256);
        Check.due("sum by 256", a.archive(305), total / 256);
        Check.due("behind", a.archive(306), DrillArchive.NONE);
    }

    private static void archives() {
        DrillArchive a = new DrillArchive();
        Check.dueThrow("byte -1", Check.INDEX, () -> a.archive(-1));
        Check.dueThrow("far below", Check.INDEX, () -> a.archive(Integer.MIN_VALUE));
        Check.due("no files", a.archive(0), 0);
        Check.due("behind it", a.archive(1), DrillArchive.NONE);
        Check.due("far behind", a.archive(Integer.MAX_VALUE), DrillArchive.NONE);
        a.file(5);
        a.file(1);
        a.byteOf(1, 200);
        a.byteOf(1, 100);
        Check.due("two files", Check.joined(a), "2 5 0 0 0 0 1 2 0 200 100 144 1");
        a.byteOf(0, 9);
        Check.due("one byte more", Check.joined(a), "2 5 1 0 9 9 0 1 2 0 200 100 144 1");
    }

    private static void feeding() {
        DrillArchive a = new DrillArchive();
        int[] none = {-1, 256, Integer.MAX_VALUE, Integer.MIN_VALUE};
        for (int b : none) {
            Check.due("feed " + b, a.feed(b), false);
        }
        for (int i = 0; i < 2_600; i++) {
            Check.due("feed " + i, a.feed(i % 256), true);
        }
        Check.due("feed 2,601", a.feed(0), false);
        Check.due("no archive", a.open(), DrillArchive.NONE);
        Check.due("room again", a.feed(0), true);
        Check.due("an archive of no files", a.open(), 0);
    }

    private static void feed(DrillArchive a, String bytes) {
        for (String b : bytes.split(" ")) {
            if (!b.isEmpty()) {
                Check.due("feed " + b, a.feed(Integer.parseInt(b)), true);
            }
        }
    }

    private static void opening() {
        DrillArchive a = new DrillArchive();
        a.file(5);
        a.byteOf(0, 3);
        feed(a, "2 5 0 0 0 0 1 2 0 200 100 144 1");
        Check.due("open", a.open(), 2);
        Check.due("opened", Check.joined(a), "2 5 0 0 0 0 1 2 0 200 100 144 1");
        Check.due("gone", a.open(), DrillArchive.NONE);
        Check.due("a byte more", a.byteOf(1, 1), true);
        Check.due("its sum", a.sum(1), 403);
        Check.due("a role that is had", a.file(1), DrillArchive.NONE);
        Check.due("a role that is no more", a.file(0), 2);
        feed(a, "0");
        Check.due("open no files", a.open(), 0);
        Check.dueThrow("no files", Check.INDEX, () -> a.sum(0));
        DrillArchive longer = new DrillArchive();
        longer.file(6);
        for (int i = 0; i < 300; i++) {
            longer.byteOf(0, 255 - i % 200);
        }
        String bytes = Check.joined(longer);
        feed(a, bytes);
        Check.due("open 300 bytes", a.open(), 1);
        Check.due("300 bytes opened", Check.joined(a), bytes);
        DrillArchive eight = new DrillArchive();
        for (int role = 0; role < 8; role++) {
            eight.file(role);
            eight.byteOf(role, 10 * role);
        }
        feed(a, Check.joined(eight));
        Check.due("open eight", a.open(), 8);
        Check.due("eight opened", Check.joined(a), Check.joined(eight));
    }

    private static void notOpened() {
        DrillArchive a = new DrillArchive();
        a.file(3);
        a.byteOf(0, 7);
        StringBuilder zeros = new StringBuilder();
        for (int i = 0; i < 301; i++) {
            zeros.append(" 0");
        }
        String[] none = {
            "", "0 0", "1", "1 5", "1 5 0", "1 5 0 0", "1 5 0 0 0", "1 5 0 0 0 0 0", "1 5 0 0 1 0", "1 5 0 0 0 1",
            "1 8 0 0 0 0", "1 255 0 0 0 0", "2 5 0 0 0 0", "2 5 0 0 0 0 5 0 0 0 0", "1 5 1 0 9 8 0", "1 5 1 0 9 9",
            "1 5 2 0 9 9 0", "1 5 1 0 9 9 1", "1 5 255 255 0 0", "1 5 45 1" + zeros + " 0 0",
            "9 0 0 0 0 0 1 0 0 0 0 2 0 0 0 0 3 0 0 0 0 4 0 0 0 0 5 0 0 0 0 6 0 0 0 0 7 0 0 0 0 0 0 0 0 0",
            "255", "0 1 5 0 0 0 0", "2 5 0 0 0 0 6 0 0 0 1", "1 5 0 0 241 255"
        };
        for (String bytes : none) {
            feed(a, bytes);
            Check.due("open of " + bytes, a.open(), DrillArchive.NONE);
            Check.due("gone: " + bytes, a.open(), DrillArchive.NONE);
            Check.due("files stay: " + bytes, Check.joined(a), "1 3 1 0 7 7 0");
        }
        feed(a, "1 5 1 0 9 9 0");
        Check.due("right again", a.open(), 1);
    }

    private static void fill(DrillArchive a, int file, String text) {
        for (int i = 0; i < text.length(); i++) {
            a.byteOf(file, text.charAt(i));
        }
    }

    private static void agreeing() {
        DrillArchive a = new DrillArchive();
        a.tool(9, true);
        a.hole(0, 4, 4, 0, 3);
        a.hole(0, 2, 2, 0, 3);
        a.hole(0, 1, 1, 1, 3);
        a.file(6);
        a.file(3);
        a.file(0);
        Check.due("empty files", a.agrees(), false);
        told(a, 0, 3, 6);
        fill(a, 1, "M48\nL0,3\nT0C9P\n%\nT0\nX2Y2\nX4Y4\nM30\n");
        told(a, 0, 6);
        fill(a, 0, "M48\nL0,6\nT0C9P\n%\nM30\n");
        told(a, 0);
        fill(a, 2, "M48\nL0,0\nT0C9P\n%\nM30");
        Check.due("a line feed is missing", a.agrees(), false);
        told(a, 0);
        a.byteOf(2, 10);
        Check.due("all are the texts", a.agrees(), true);
        told(a);
        a.byteOf(0, 10);
        Check.due("a byte too many", a.agrees(), false);
        told(a, 6);
        a.hole(0, 3, 3, 0, 3);
        told(a, 3, 6);
        a.tool(1, true);
        told(a, 0, 3, 6);
        agreeingWithAll();
    }

    private static void agreeingWithAll() {
        for (int wrong = 0; wrong < 8; wrong++) {
            DrillArchive a = new DrillArchive();
            for (int number = 0; number < 8; number++) {
                int role = 7 - number;
                a.file(role);
                String text = "M48\nL0," + role + "\n%\nM30\n";
                fill(a, number, role == wrong ? text.replace("3", "4") : text);
            }
            Check.due("one byte of role " + wrong + " differs", a.agrees(), false);
            told(a, wrong);
        }
        DrillArchive first = new DrillArchive();
        first.file(0);
        fill(first, 0, "m48\nL0,0\n%\nM30\n");
        told(first, 0);
    }

    private static void told(DrillArchive a, int... roles) {
        for (int k = 0; k < roles.length; k++) {
            Check.due("told(" + k + ")", a.told(k), roles[k]);
        }
        int[] none = {roles.length, 8, Integer.MAX_VALUE, -1, Integer.MIN_VALUE};
        for (int k : none) {
            Check.due("told(" + k + ") of " + roles.length, a.told(k), DrillArchive.NONE);
        }
    }

    private static void clearing() {
        DrillArchive a = new DrillArchive();
        a.tool(9, true);
        a.hole(0, 4, 4, 0, 3);
        a.file(3);
        a.byteOf(0, 1);
        a.unit('M');
        a.feed(0);
        Check.due("a text ahead", Check.written(a, 3), "M48\nL0,3\nT0C9P\n%\nT0\nX4Y4\nM30\n");
        a.clear();
        Check.due("no text to be read", a.read(), -1);
        Check.due("no archive to be opened", a.open(), DrillArchive.NONE);
        Check.dueThrow("no tools", Check.INDEX, () -> a.travel(0));
        Check.dueThrow("no hits", Check.INDEX, () -> a.at(0, 0));
        Check.dueThrow("no files", Check.INDEX, () -> a.sum(0));
        Check.due("text of nothing", Check.written(a, 3), "M48\nL0,3\n%\nM30\n");
        Check.due("archive of nothing", Check.joined(a), "0");
        Check.due("nothing disagrees", a.agrees(), true);
        Check.due("the first tool", a.tool(3, false), 0);
        Check.due("it has no hits", a.order(0, 0), DrillArchive.NONE);
        Check.due("the first hit", a.slot(0, 1, 1, 2, 2), 0);
        Check.due("the first file", a.file(3), 0);
        Check.due("without bytes", Check.joined(a), "1 3 0 0 0 0");
    }
}
