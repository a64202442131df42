import java.util.ArrayList;
import java.util.List;
import java.util.regex.Matcher;
import java.util.regex.Pattern;

/** The document's words in another form, with the library's lists and patterns, to compare with. */
final class PlainModel {
    private static final Pattern START = Pattern.compile("M48\n");
    private static final Pattern LAYERS = Pattern.compile("L(\\d{1,7}),(\\d{1,7})\n");
    private static final Pattern TOOL = Pattern.compile("T(\\d{1,7})C(\\d{1,7})([PN])\n");
    private static final Pattern MIDDLE = Pattern.compile("%\n");
    private static final Pattern CHOICE = Pattern.compile("T(\\d{1,7})\n");
    private static final Pattern HIT =
            Pattern.compile("X(-?\\d{1,7})Y(-?\\d{1,7})(?:G85X(-?\\d{1,7})Y(-?\\d{1,7}))?\n");
    private static final Pattern END = Pattern.compile("M30\n");

    private List<String> tools = new ArrayList<>();
    private List<long[]> hits = new ArrayList<>();
    private List<Integer> roles = new ArrayList<>();
    private List<List<Integer>> files = new ArrayList<>();
    private StringBuilder units = new StringBuilder();
    private List<Integer> fed = new ArrayList<>();

    long tool(long diameter, boolean plated) {
        argument(diameter >= 1 && diameter <= 10_000);
        if (tools.size() == 10) {
            return -1;
        }
        tools.add(diameter + (plated ? "P" : "N"));
        return tools.size() - 1;
    }

    long hole(int tool, long x, long y, int from, int to) {
        index(tool >= 0 && tool < tools.size() && from >= 0 && from < 8 && to >= 0 && to < 8);
        argument(place(x) && place(y) && from <= to);
        return add(new long[] {tool, x, y, x, y, from, to, 0});
    }

    long slot(int tool, long x, long y, long x2, long y2) {
        index(tool >= 0 && tool < tools.size());
        argument(place(x) && place(y) && place(x2) && place(y2) && !(x == x2 && y == y2));
        return add(new long[] {tool, x, y, x2, y2, 0, 7, 1});
    }

    private long add(long[] hit) {
        if (hits.size() == 60) {
            return -1;
        }
        hits.add(hit);
        return hits.size() - 1;
    }

    private static boolean place(long p) {
        return p >= -1_000_000 && p <= 1_000_000;
    }

    private static void argument(boolean right) {
        if (!right) {
            throw new IllegalArgumentException();
        }
    }

    private static void index(boolean right) {
        if (!right) {
            throw new IndexOutOfBoundsException();
        }
    }

    String text(int from, int to) {
        StringBuilder text = new StringBuilder("M48\nL" + from + "," + to + "\n");
        for (int t = 0; t < tools.size(); t++) {
            text.append("T").append(t).append("C").append(tools.get(t)).append("\n");
        }
        text.append("%\n");
        for (int t = 0; t < tools.size(); t++) {
            StringBuilder lines = new StringBuilder();
            for (int k : row(t)) {
                long[] h = hits.get(k);
                if (h[5] == from && h[6] == to) {
                    lines.append("X" + h[1] + "Y" + h[2] + (h[7] == 1 ? "G85X" + h[3] + "Y" + h[4] : "") + "\n");
                }
            }
            text.append(lines.length() > 0 ? "T" + t + "\n" + lines : "");
        }
        return text.append("M30\n").toString();
    }

    long write(int layers, int i) {
        int from = layers / 10;
        int to = layers % 10;
        index(i >= 0 && from >= 0 && from < 8 && to >= 0 && to < 8 && from <= to);
        String text = text(from, to);
        return i < text.length() ? text.charAt(i) : -1;
    }

    boolean unit(int u) {
        if (units.length() == 2_000 || !(u == 10 || (u >= 32 && u <= 126))) {
            return false;
        }
        units.append((char) u);
        return true;
    }

    /**
     * Line by line: at each place the lines that may stand there; a character is wrong when no line that
     * may stand there begins with what stands up to it.
     */
    long read() {
        PlainModel into = new PlainModel();
        int from = -1;
        int to = -1;
        int tool = -1;
        int part = 0;
        int start = 0;
        while (part < 4) {
            List<Pattern> may = new ArrayList<>();
            if (part == 0) {
                may.add(START);
            } else if (part == 1) {
                may.addAll(from < 0 ? List.of(LAYERS) : List.of(TOOL, MIDDLE));
                if (into.tools.isEmpty() && from >= 0) {
                    may.add(LAYERS);
                }
            } else if (part == 2) {
                may.addAll(tool < 0 ? List.of(CHOICE, END) : List.of(CHOICE, HIT, END));
            } else if (start < units.length()) {
                return -1 - start;
            } else {
                part = 4;
                continue;
            }
            Pattern found = null;
            Matcher line = null;
            int end = start;
            while (found == null) {
                if (end == units.length()) {
                    return -1 - end;
                }
                end++;
                boolean begins = false;
                for (Pattern p : may) {
                    Matcher m = p.matcher(units.substring(start, end));
                    if (m.matches()) {
                        found = p;
                        line = m;
                    }
                    begins |= m.hitEnd();
                }
                if (found == null && !begins) {
                    return -1 - (end - 1);
                }
            }
            try {
                if (found == START) {
                    part = 1;
                } else if (found == LAYERS) {
                    from = number(line, 1);
                    to = number(line, 2);
                    argument(from < 8 && to < 8 && from <= to);
                } else if (found == TOOL) {
                    argument(number(line, 1) == into.tools.size());
                    argument(into.tool(number(line, 2), line.group(3).equals("P")) >= 0);
                } else if (found == MIDDLE) {
                    part = 2;
                } else if (found == CHOICE) {
                    tool = number(line, 1);
                    argument(tool < into.tools.size());
                } else if (found == HIT && line.group(3) == null) {
                    argument(into.hole(tool, number(line, 1), number(line, 2), from, to) >= 0);
                } else if (found == HIT) {
                    argument(into.slot(tool, number(line, 1), number(line, 2), number(line, 3), number(line, 4)) >= 0);
                } else {
                    part = 3;
                }
            } catch (IllegalArgumentException e) {
                return -1 - start;
            }
            start = end;
        }
        tools = into.tools;
        hits = into.hits;
        units = new StringBuilder();
        return hits.size();
    }

    private static int number(Matcher line, int group) {
        return Integer.parseInt(line.group(group));
    }

    long at(int k, int what) {
        index(k >= 0 && k < hits.size() && what >= 0 && what < 8);
        return hits.get(k)[what];
    }

    private List<Integer> mine(int tool) {
        index(tool >= 0 && tool < tools.size());
        List<Integer> mine = new ArrayList<>();
        for (int k = 0; k < hits.size(); k++) {
            if (hits.get(k)[0] == tool) {
                mine.add(k);
            }
        }
        return mine;
    }

    private List<Integer> row(int tool) {
        List<Integer> left = mine(tool);
        List<Integer> row = new ArrayList<>();
        while (!left.isEmpty()) {
            int next = left.get(0);
            for (int k : left) {
                if (measure(left, row, k) < measure(left, row, next)) {
                    next = k;
                }
            }
            row.add(next);
            left.remove(Integer.valueOf(next));
        }
        return row;
    }

    /** What a next hit costs: with all that comes behind it for up to eight, its own way for more. */
    private long measure(List<Integer> left, List<Integer> row, int next) {
        long way = way(row.isEmpty() ? -1 : row.get(row.size() - 1), next);
        if (left.size() + row.size() > 8) {
            return way;
        }
        List<Integer> others = new ArrayList<>(left);
        others.remove(Integer.valueOf(next));
        return way + least(next, others);
    }

    private long least(int here, List<Integer> left) {
        long least = left.isEmpty() ? 0 : Long.MAX_VALUE;
        for (int k : left) {
            List<Integer> others = new ArrayList<>(left);
            others.remove(Integer.valueOf(k));
            least = Math.min(least, way(here, k) + least(k, others));
        }
        return least;
    }

    private long way(int here, int next) {
        long x = here < 0 ? 0 : hits.get(here)[3];
        long y = here < 0 ? 0 : hits.get(here)[4];
        return Math.max(Math.abs(hits.get(next)[1] - x), Math.abs(hits.get(next)[2] - y));
    }

    long order(int tool, int k) {
        List<Integer> row = row(tool);
        return k >= 0 && k < row.size() ? row.get(k) : -1;
    }

    long travel(int tool) {
        long travel = 0;
        int here = -1;
        for (int k : row(tool)) {
            travel += way(here, k);
            here = k;
        }
        return travel;
    }

    boolean proved(int tool) {
        return mine(tool).size() <= 8;
    }

    long file(int role) {
        argument(role >= 0 && role < 8);
        if (roles.contains(role)) {
            return -1;
        }
        roles.add(role);
        files.add(new ArrayList<>());
        return roles.size() - 1;
    }

    boolean byteOf(int file, int b) {
        index(file >= 0 && file < files.size());
        argument(b >= 0 && b < 256);
        return files.get(file).size() < 300 && files.get(file).add(b);
    }

    private List<Integer> joined() {
        List<Integer> bytes = new ArrayList<>();
        bytes.add(files.size());
        for (int f = 0; f < files.size(); f++) {
            bytes.add(roles.get(f));
            bytes.add(files.get(f).size() % 256);
            bytes.add(files.get(f).size() / 256);
            bytes.addAll(files.get(f));
            bytes.add((int) (sum(f) % 256));
            bytes.add((int) (sum(f) / 256));
        }
        return bytes;
    }

    long archive(int i) {
        index(i >= 0);
        return i < joined().size() ? joined().get(i) : -1;
    }

    boolean feed(int b) {
        return b >= 0 && b < 256 && fed.size() < 2_600 && fed.add(b);
    }

    /** Takes out of the bytes what files it can, and looks whether these join into the same bytes. */
    long open() {
        List<Integer> bytes = fed;
        fed = new ArrayList<>();
        if (bytes.isEmpty() || bytes.get(0) > 8) {
            return -1;
        }
        PlainModel into = new PlainModel();
        int next = 1;
        for (int f = 0; f < bytes.get(0); f++) {
            if (next + 3 > bytes.size() || bytes.get(next) > 7 || into.file(bytes.get(next)) < 0) {
                return -1;
            }
            int length = bytes.get(next + 1) + 256 * bytes.get(next + 2);
            next += 3;
            for (int i = 0; i < length; i++) {
                if (next >= bytes.size() || !into.byteOf(f, bytes.get(next++))) {
                    return -1;
                }
            }
            next += 2;
        }
        if (!into.joined().equals(bytes)) {
            return -1;
        }
        roles = into.roles;
        files = into.files;
        return files.size();
    }

    boolean agrees() {
        return told(0) == -1;
    }

    long told(int k) {
        List<Integer> told = new ArrayList<>();
        for (int role = 0; role < 8; role++) {
            if (roles.contains(role)) {
                StringBuilder bytes = new StringBuilder();
                for (int b : files.get(roles.indexOf(role))) {
                    bytes.append((char) b);
                }
                if (!bytes.toString().equals(text(0, role))) {
                    told.add(role);
                }
            }
        }
        return k >= 0 && k < told.size() ? told.get(k) : -1;
    }

    long sum(int file) {
        index(file >= 0 && file < files.size());
        long sum = 0;
        for (int i = 0; i < files.get(file).size(); i++) {
            sum += (long) files.get(file).get(i) * (i + 1);
        }
        return sum % 65_521;
    }

    void clear() {
        tools = new ArrayList<>();
        hits = new ArrayList<>();
        roles = new ArrayList<>();
        files = new ArrayList<>();
        units = new StringBuilder();
        fed = new ArrayList<>();
    }
}
