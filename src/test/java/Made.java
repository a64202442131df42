/** Objects that the boundary tests begin with, and bytes and texts put into them. */
final class Made {
    private Made() {
    }

    /** Something of each kind: tools, holes, slots, files, a text to be read, an archive to be opened. */
    static void some(DrillArchive a) {
        withoutText(a);
        put(a, "M48\nL2,3\nT0C9N\n%\nT0\nX-8Y8\nX1Y1G85X2Y2\nM30\n");
    }

    static void withoutText(DrillArchive a) {
        a.tool(300, true);
        a.tool(50, false);
        a.tool(1, true);
        a.hole(0, 10, 0, 0, 1);
        a.hole(0, -5, 3, 0, 1);
        a.hole(1, 3, 0, 1, 2);
        a.slot(0, 5, 5, 5, -20);
        a.slot(1, -7, 2, 6, -21);
        a.file(4);
        a.file(1);
        fill(a, 0, "M48\nL0,4\nT0C300P\nT1C50N\nT2C1P\n%\nM30\n");
        a.byteOf(1, 200);
        a.byteOf(1, 100);
        feed(a, "1 6 2 0 7 255 5 2");
    }

    static void tools(DrillArchive a, int count) {
        for (int number = 0; number < count; number++) {
            a.tool(10 + number, number % 2 == 0);
        }
    }

    /** One tool and so many hits, holes and slots in turn. */
    static void hits(DrillArchive a, int count) {
        a.tool(5, true);
        for (int k = 0; k < count; k++) {
            if (k % 2 == 0) {
                a.hole(0, k, -k, 1, 2);
            } else {
                a.slot(0, k, 0, 0, -k);
            }
        }
    }

    static void fill(DrillArchive a, int file, String text) {
        for (int i = 0; i < text.length(); i++) {
            a.byteOf(file, text.charAt(i));
        }
    }

    static void put(DrillArchive a, String text) {
        for (int i = 0; i < text.length(); i++) {
            a.unit(text.charAt(i));
        }
    }

    /** A file of role 2 with so many bytes, each of them the same. */
    static void file(DrillArchive a, int length, int b) {
        a.file(2);
        for (int i = 0; i < length; i++) {
            a.byteOf(0, b);
        }
    }

    static void feed(DrillArchive a, String bytes) {
        for (String b : bytes.split(" ")) {
            if (!b.isEmpty()) {
                a.feed(Integer.parseInt(b));
            }
        }
    }
}
