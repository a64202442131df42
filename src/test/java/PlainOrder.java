import java.util.ArrayList;
import java.util.List;

/** The ORDER of a tool's hits as the document's words say it: every row tried, or always the nearest. */
final class PlainOrder {
    /** Of each hit: x, y, x and y of its end; asked for once, so that the object's calls stay few. */
    private final List<long[]> hits = new ArrayList<>();
    private final List<Integer> mine = new ArrayList<>();
    private List<Integer> best = new ArrayList<>();
    private long bestLength = Long.MAX_VALUE;

    PlainOrder(DrillArchive archive, int tool) {
        for (int k = 0; k < 60; k++) {
            try {
                if (archive.at(k, 0) == tool) {
                    mine.add(k);
                }
                hits.add(new long[] {archive.at(k, 1), archive.at(k, 2), archive.at(k, 3), archive.at(k, 4)});
            } catch (IndexOutOfBoundsException e) {
                break;
            }
        }
    }

    String least() {
        tryAll(new ArrayList<>(), 0);
        return told(best, bestLength);
    }

    String nearest() {
        List<Integer> left = new ArrayList<>(mine);
        List<Integer> row = new ArrayList<>();
        long length = 0;
        while (!left.isEmpty()) {
            int next = left.get(0);
            for (int k : left) {
                if (way(row, k) < way(row, next)) {
                    next = k;
                }
            }
            length += way(row, next);
            row.add(next);
            left.remove(Integer.valueOf(next));
        }
        return told(row, length);
    }

    // Rows come in the order of their numbers, so a later one wins only when it is shorter.
    private void tryAll(List<Integer> row, long length) {
        if (row.size() == mine.size()) {
            if (length < bestLength) {
                bestLength = length;
                best = new ArrayList<>(row);
            }
            return;
        }
        for (int k : mine) {
            if (!row.contains(k)) {
                long way = way(row, k);
                row.add(k);
                tryAll(row, length + way);
                row.remove(row.size() - 1);
            }
        }
    }

    private long way(List<Integer> row, int next) {
        long[] to = hits.get(next);
        long[] here = row.isEmpty() ? new long[4] : hits.get(row.get(row.size() - 1));
        return Math.max(Math.abs(to[0] - here[2]), Math.abs(to[1] - here[3]));
    }

    private static String told(List<Integer> row, long length) {
        StringBuilder text = new StringBuilder();
        for (int k : row) {
            text.append(k).append(' ');
        }
        return text.append(length).toString();
    }
}
