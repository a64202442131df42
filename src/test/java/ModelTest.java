import java.util.Random;
import java.util.function.LongSupplier;

/** All promises together: long runs of calls, drawn from fixed seeds, against the plain model. */
public final class ModelTest {
    private static final String LETTERS = "M480LTCPN%XYG5-,\n 123679Q";

    private final Random random;
    private final String name;
    private final DrillArchive archive = new DrillArchive();
    private final PlainModel model = new PlainModel();
    private int calls = 0;

    private ModelTest(int seed) {
        random = new Random(seed);
        name = "run " + seed;
    }

    public static void main(String[] args) {
        for (int seed = 0; seed < 1_500; seed++) {
            new ModelTest(seed).run();
        }
        Check.end("ModelTest");
    }

    private void run() {
        int bias = random.nextInt(4);
        while (calls < 500) {
            step(bias == 0 ? random.nextInt(20) : bias == 1 ? random.nextInt(8) : random.nextInt(19));
        }
    }

    private void same(String call, LongSupplier got, LongSupplier want) {
        calls++;
        String answer = Check.answer(got);
        String due = Check.answer(want);
        // What an object answers behind its 512th call is free.
        if (calls <= 512) {
            Check.due(name + ", call " + calls + ": " + call, answer, due);
        }
    }

    private int edge(int low, int high) {
        int[] edges = {low - 1, high + 1, Integer.MIN_VALUE, Integer.MAX_VALUE};
        return random.nextInt(25) == 0 ? edges[random.nextInt(4)] : low + random.nextInt(high - low + 1);
    }

    private long place() {
        long[] edges = {-1_000_001, 1_000_001, -1_000_000, 1_000_000, Long.MIN_VALUE, Long.MAX_VALUE};
        return random.nextInt(40) == 0 ? edges[random.nextInt(6)] : random.nextInt(21) - 10;
    }

    private static long bit(boolean b) {
        return b ? 1 : 0;
    }

    private void step(int kind) {
        switch (kind) {
            case 0: case 1: case 2: stepDrawing(); break;
            case 3: case 4: stepOrder(); break;
            case 5: case 6: stepRead(); break;
            case 7: case 8: stepWrite(); break;
            case 9: case 10: case 11: stepFiles(); break;
            case 12: case 13: stepOpen(); break;
            case 14: case 15: stepText(); break;
            case 16: case 17: stepAgree(); break;
            case 18: stepAt(); break;
            default:
                if (random.nextInt(8) == 0) {
                    clear();
                }
        }
    }

    private void clear() {
        calls++;
        archive.clear();
        model.clear();
    }

    private void stepDrawing() {
        int tool = edge(0, 2);
        long x = place();
        long y = place();
        int from = edge(0, 2);
        int to = edge(1, 7);
        if (random.nextInt(6) == 0) {
            long diameter = random.nextInt(9) == 0 ? edge(1, 10_000) : random.nextInt(10_000);
            boolean plated = random.nextBoolean();
            same("tool " + diameter, () -> archive.tool(diameter, plated), () -> model.tool(diameter, plated));
        } else if (random.nextInt(3) == 0) {
            long x2 = random.nextInt(4) == 0 ? x : place();
            long y2 = random.nextInt(4) == 0 ? y : place();
            same("slot", () -> archive.slot(tool, x, y, x2, y2), () -> model.slot(tool, x, y, x2, y2));
        } else {
            same("hole", () -> archive.hole(tool, x, y, from, to), () -> model.hole(tool, x, y, from, to));
        }
    }

    private void stepOrder() {
        int tool = edge(0, 2);
        int k = edge(0, 9);
        same("order " + tool + " " + k, () -> archive.order(tool, k), () -> model.order(tool, k));
        if (random.nextInt(4) == 0) {
            same("travel " + tool, () -> archive.travel(tool), () -> model.travel(tool));
            same("proved " + tool, () -> bit(archive.proved(tool)), () -> bit(model.proved(tool)));
        }
    }

    private void stepAt() {
        int k = edge(0, 12);
        int what = edge(0, 7);
        same("at " + k + " " + what, () -> archive.at(k, what), () -> model.at(k, what));
    }

    private void stepWrite() {
        int layers = random.nextInt(3) == 0 ? edge(0, 80) : random.nextInt(8);
        int i = edge(0, 90);
        same("write " + layers + " " + i, () -> archive.write(layers, i), () -> model.write(layers, i));
    }

    private void stepRead() {
        StringBuilder text = new StringBuilder();
        if (random.nextInt(4) == 0) {
            text.append(model.text(0, random.nextInt(8)));
        } else {
            drawText(text);
        }
        if (random.nextInt(2) == 0) {
            spoil(text);
        }
        for (int i = 0; i < text.length(); i++) {
            int u = text.charAt(i);
            same("unit " + u, () -> bit(archive.unit(u)), () -> bit(model.unit(u)));
        }
        same("read", archive::read, model::read);
        if (random.nextInt(2) == 0) {
            same("read again", archive::read, model::read);
        } else if (random.nextInt(2) == 0) {
            clear();
        }
        int u = edge(0, 130);
        if (random.nextInt(9) == 0) {
            same("unit " + u, () -> bit(archive.unit(u)), () -> bit(model.unit(u)));
        }
    }

    private void drawText(StringBuilder text) {
        text.append("M48\n");
        for (int lines = random.nextInt(6) == 0 ? 2 : 1; lines > 0; lines--) {
            text.append("L").append(zeros()).append(random.nextInt(3)).append(",").append(2 + random.nextInt(6)).append("\n");
        }
        int tools = random.nextInt(4);
        for (int t = 0; t < tools; t++) {
            text.append("T").append(zeros()).append(random.nextInt(30) == 0 ? random.nextInt(12) : t).append("C");
            text.append(zeros()).append(1 + random.nextInt(300)).append(random.nextBoolean() ? "P\n" : "N\n");
        }
        text.append("%\n");
        for (int parts = random.nextInt(4); parts > 0 && tools > 0; parts--) {
            text.append("T").append(random.nextInt(30) == 0 ? random.nextInt(12) : random.nextInt(tools)).append("\n");
            for (int lines = random.nextInt(5); lines > 0; lines--) {
                drawPlace(text);
                if (random.nextInt(4) == 0) {
                    drawPlace(text.append("G85"));
                }
                text.append("\n");
            }
        }
        text.append("M30\n");
    }

    private String zeros() {
        return random.nextInt(10) == 0 ? "0000000".substring(random.nextInt(8)) : "";
    }

    private void drawPlace(StringBuilder text) {
        for (char letter : new char[] {'X', 'Y'}) {
            text.append(letter).append(random.nextInt(3) == 0 ? "-" : "").append(zeros());
            text.append(random.nextInt(60) == 0 ? 999_999 + random.nextInt(4) : random.nextInt(6));
        }
    }

    private void spoil(StringBuilder text) {
        int place = random.nextInt(text.length());
        char letter = LETTERS.charAt(random.nextInt(LETTERS.length()));
        switch (random.nextInt(4)) {
            case 0: text.setCharAt(place, letter); break;
            case 1: text.insert(place, letter); break;
            case 2: text.deleteCharAt(place); break;
            default: text.setLength(place);
        }
    }

    private void stepFiles() {
        int role = edge(0, 7);
        int file = edge(0, 3);
        int b = edge(0, 255);
        int i = edge(0, 60);
        if (random.nextInt(4) == 0) {
            same("file " + role, () -> archive.file(role), () -> model.file(role));
        }
        same("byteOf " + file + " " + b, () -> bit(archive.byteOf(file, b)), () -> bit(model.byteOf(file, b)));
        same("sum " + file, () -> archive.sum(file), () -> model.sum(file));
        same("archive " + i, () -> archive.archive(i), () -> model.archive(i));
    }

    private void stepOpen() {
        int many = random.nextInt(10) == 0 ? random.nextInt(11) : random.nextInt(4);
        int told = random.nextInt(10) == 0 ? random.nextInt(11) : many;
        feed(told);
        int role = random.nextInt(8);
        for (int f = 0; f < many; f++) {
            feed(random.nextInt(25) == 0 ? random.nextInt(9) : role);
            role = (role + 1) % 8;
            int length = random.nextInt(6);
            feed(random.nextInt(25) == 0 ? random.nextInt(6) : length);
            feed(random.nextInt(25) == 0 ? 1 : 0);
            int sum = 0;
            for (int i = 1; i <= length; i++) {
                int b = random.nextInt(256);
                feed(b);
                sum += b * i;
            }
            feed(random.nextInt(25) == 0 ? 3 : sum % 256);
            feed(sum / 256);
        }
        same("open", archive::open, model::open);
    }

    private void feed(int b) {
        same("feed " + b, () -> bit(archive.feed(b)), () -> bit(model.feed(b)));
        if (random.nextInt(90) == 0) {
            int wrong = random.nextBoolean() ? -1 : 256;
            same("feed " + wrong, () -> bit(archive.feed(wrong)), () -> bit(model.feed(wrong)));
        }
    }

    /** A file with the text of its role, or nearly so. */
    private void stepText() {
        if (random.nextInt(3) != 0) {
            return;
        }
        int role = random.nextInt(8);
        int file = (int) model.file(role);
        same("file " + role, () -> archive.file(role), () -> (long) file);
        if (file < 0 || model.text(0, role).length() > 250) {
            return;
        }
        String text = model.text(0, role);
        int length = random.nextInt(4) == 0 ? random.nextInt(text.length()) : text.length();
        for (int i = 0; i < length; i++) {
            int b = random.nextInt(200) == 0 ? 7 : text.charAt(i);
            same("byteOf " + b, () -> bit(archive.byteOf(file, b)), () -> bit(model.byteOf(file, b)));
        }
        stepAgree();
    }

    private void stepAgree() {
        int k = edge(0, 3);
        same("agrees", () -> bit(archive.agrees()), () -> bit(model.agrees()));
        same("told " + k, () -> archive.told(k), () -> model.told(k));
    }
}
