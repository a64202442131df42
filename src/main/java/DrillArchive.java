import java.util.Arrays;

/**
 * Drill texts and an archive of files: tools, holes and slots by layers, the order of hits with the
 * least travel, texts written and read back, and files joined into bytes and opened again.
 */
public final class DrillArchive {
    /** There is none. */
    public static final int NONE = -1;

    private static final int MOST_TOOLS = 10;
    private static final int MOST_HITS = 60;
    private static final int MOST_PROVED = 8;
    private static final int LARGEST_DIAMETER = 10_000;
    private static final int FARTHEST = 1_000_000;
    private static final int LAST_LAYER = 7;
    private static final int LAST_PART = 7;
    private static final int MOST_UNITS = 2_000;
    // Above the longest TEXT that 10 TOOLS and 60 slots at the farthest places can have (2,545).
    private static final int MOST_WRITTEN = 2_600;
    private static final int MOST_FILES = 8;
    private static final int LAST_ROLE = 7;
    private static final int MOST_BYTES = 300;
    private static final int MOST_FED = 2_600;
    private static final int BYTE_VALUES = 256;
    private static final int SUM_MODULUS = 65_521;

    private final Planner planner;
    private final TextWriter writer;
    private final Row units;
    private final Row fed;
    private Drawing drawing;
    private FileSet files;

    public DrillArchive() {
        planner = new Planner();
        writer = new TextWriter(planner);
        units = new Row(MOST_UNITS);
        fed = new Row(MOST_FED);
        drawing = new Drawing();
        files = new FileSet();
    }

    public int tool(long diameter, boolean plated) throws IllegalArgumentException {
        if (!isDiameter(diameter)) {
            throw new IllegalArgumentException("no diameter");
        }
        writer.forget();
        return drawing.addTool((int) diameter, plated);
    }

    public int hole(int tool, long x, long y, int from, int to)
            throws IndexOutOfBoundsException, IllegalArgumentException {
        knownTool(tool);
        if (!isLayer(from) || !isLayer(to)) {
            throw new IndexOutOfBoundsException("no such layer");
        }
        if (!isPlace(x, y) || from > to) {
            throw new IllegalArgumentException("no place, or from is above to");
        }
        writer.forget();
        return drawing.addHit(new Hit(tool, (int) x, (int) y, (int) x, (int) y, from, to));
    }

    public int slot(int tool, long x, long y, long x2, long y2)
            throws IndexOutOfBoundsException, IllegalArgumentException {
        knownTool(tool);
        if (!isPlace(x, y) || !isPlace(x2, y2) || (x == x2 && y == y2)) {
            throw new IllegalArgumentException("no place, or both places are one");
        }
        writer.forget();
        return drawing.addHit(new Hit(tool, (int) x, (int) y, (int) x2, (int) y2, 0, LAST_LAYER));
    }

    public int write(int layers, int i) throws IndexOutOfBoundsException {
        int from = layers / 10;
        int to = layers % 10;
        if (i < 0 || !isLayer(from) || !isLayer(to) || from > to) {
            throw new IndexOutOfBoundsException("no such character, or no such layers");
        }
        return writer.textOf(drawing, from, to).get(i);
    }

    public boolean unit(int u) {
        boolean readable = u == '\n' || (u >= ' ' && u <= '~');
        return readable && units.push(u);
    }

    public int read() {
        Drawing told = new Drawing();
        int wrong = new TextReader(units, told).firstWrong();
        if (wrong != NONE) {
            return -1 - wrong;
        }
        drawing = told;
        units.empty();
        writer.forget();
        return drawing.hitCount;
    }

    public long at(int k, int what) throws IndexOutOfBoundsException {
        Hit hit = drawing.hitAt(k);
        if (hit == null || what < 0 || what > LAST_PART) {
            throw new IndexOutOfBoundsException("no such hit, or nothing of it");
        }
        return hit.part(what);
    }

    public int order(int tool, int k) throws IndexOutOfBoundsException {
        Tool asked = knownTool(tool);
        planner.plan(drawing, asked);
        return asked.ordered.get(k);
    }

    public long travel(int tool) throws IndexOutOfBoundsException {
        Tool asked = knownTool(tool);
        planner.plan(drawing, asked);
        return asked.length;
    }

    public boolean proved(int tool) throws IndexOutOfBoundsException {
        return knownTool(tool).hits.count <= MOST_PROVED;
    }

    public int file(int role) throws IllegalArgumentException {
        if (!isRole(role)) {
            throw new IllegalArgumentException("no role");
        }
        return files.add(role);
    }

    public boolean byteOf(int file, int b) throws IndexOutOfBoundsException, IllegalArgumentException {
        StoredFile asked = knownFile(file);
        if (!isByte(b)) {
            throw new IllegalArgumentException("no byte");
        }
        return asked.push(b);
    }

    public int archive(int i) throws IndexOutOfBoundsException {
        if (i < 0) {
            throw new IndexOutOfBoundsException("no such byte");
        }
        return files.joined(i);
    }

    public boolean feed(int b) {
        return isByte(b) && fed.push(b);
    }

    public int open() {
        FileSet opened = new FileSet();
        boolean whole = opened.take(fed);
        fed.empty();
        if (!whole) {
            return NONE;
        }
        files = opened;
        return files.count;
    }

    public boolean agrees() {
        return told(0) == NONE;
    }

    public int told(int k) {
        if (k < 0) {
            return NONE;
        }
        int left = k;
        for (int role = 0; role <= LAST_ROLE; role++) {
            StoredFile kept = files.withRole(role);
            if (kept != null && !kept.bytes.same(writer.textOf(drawing, 0, role))) {
                if (left == 0) {
                    return role;
                }
                left--;
            }
        }
        return NONE;
    }

    public long sum(int file) throws IndexOutOfBoundsException {
        return knownFile(file).total;
    }

    public void clear() {
        drawing = new Drawing();
        files = new FileSet();
        units.empty();
        fed.empty();
        writer.forget();
    }

    private Tool knownTool(int number) {
        Tool known = drawing.toolAt(number);
        if (known == null) {
            throw new IndexOutOfBoundsException("no such tool");
        }
        return known;
    }

    private StoredFile knownFile(int number) {
        StoredFile known = files.fileAt(number);
        if (known == null) {
            throw new IndexOutOfBoundsException("no such file");
        }
        return known;
    }

    private static boolean isDiameter(long diameter) {
        return diameter >= 1 && diameter <= LARGEST_DIAMETER;
    }

    private static boolean isLayer(int layer) {
        return layer >= 0 && layer <= LAST_LAYER;
    }

    private static boolean isPlace(long x, long y) {
        return x >= -FARTHEST && x <= FARTHEST && y >= -FARTHEST && y <= FARTHEST;
    }

    private static boolean isRole(int role) {
        return role >= 0 && role <= LAST_ROLE;
    }

    private static boolean isByte(int b) {
        return b >= 0 && b < BYTE_VALUES;
    }

    /** Numbers from 0 on in a row, which grows only as far as it is filled, up to its limit. */
    private static final class Row {
        private static final int FIRST_ROOM = 8;

        private final int limit;
        private int[] cells;
        private int count;

        Row(int limit) {
            this.limit = limit;
            cells = new int[FIRST_ROOM];
        }

        boolean push(int value) {
            if (count >= limit) {
                return false;
            }
            if (count >= cells.length) {
                cells = Arrays.copyOf(cells, count * 2);
            }
            cells[count] = value;
            count++;
            return true;
        }

        void pushText(String text) {
            for (int i = 0; i < text.length(); i++) {
                push(text.charAt(i));
            }
        }

        // No number that is written has more than the seven digits of the farthest place.
        void pushPart(char letter, int value) {
            push(letter);
            if (value < 0) {
                push('-');
            }
            int size = Math.abs(value);
            for (int unit = FARTHEST; unit > 0; unit /= 10) {
                if (size >= unit || unit == 1) {
                    push('0' + size / unit % 10);
                }
            }
        }

        int get(int i) {
            return i >= 0 && i < count ? cells[i] : NONE;
        }

        boolean same(Row other) {
            if (count != other.count) {
                return false;
            }
            for (int i = 0; i < count; i++) {
                if (get(i) != other.get(i)) {
                    return false;
                }
            }
            return true;
        }

        void empty() {
            count = 0;
        }
    }

    /** A hole, or a slot, which alone ends elsewhere than it begins. */
    private static final class Hit {
        private final int tool;
        private final int x;
        private final int y;
        private final int endX;
        private final int endY;
        private final int from;
        private final int to;

        Hit(int tool, int x, int y, int endX, int endY, int from, int to) {
            this.tool = tool;
            this.x = x;
            this.y = y;
            this.endX = endX;
            this.endY = endY;
            this.from = from;
            this.to = to;
        }

        boolean isSlot() {
            return x != endX || y != endY;
        }

        int wayTo(Hit next) {
            return Math.max(Math.abs(next.x - endX), Math.abs(next.y - endY));
        }

        long part(int what) {
            switch (what) {
                case 0: return tool;
                case 1: return x;
                case 2: return y;
                case 3: return endX;
                case 4: return endY;
                case 5: return from;
                case 6: return to;
                default: return isSlot() ? 1 : 0;
            }
        }
    }

    /** A TOOL with the numbers of its HITS, and their ORDER once it is planned. */
    private static final class Tool {
        private final int diameter;
        private final boolean plated;
        private final Row hits = new Row(MOST_HITS);
        private final Row ordered = new Row(MOST_HITS);
        private long length;
        private boolean planned;

        Tool(int diameter, boolean plated) {
            this.diameter = diameter;
            this.plated = plated;
        }

        void addHit(int number) {
            hits.push(number);
            planned = false;
        }

        void beginPlan() {
            ordered.empty();
            length = 0;
            planned = true;
        }

        void planNext(int number, int way) {
            ordered.push(number);
            length += way;
        }
    }

    /** All TOOLS and HITS. */
    private static final class Drawing {
        private final Tool[] tools = new Tool[MOST_TOOLS];
        private final Hit[] hits = new Hit[MOST_HITS];
        private int toolCount;
        private int hitCount;

        int addTool(int diameter, boolean plated) {
            if (toolCount >= MOST_TOOLS) {
                return NONE;
            }
            tools[toolCount] = new Tool(diameter, plated);
            toolCount++;
            return toolCount - 1;
        }

        int addHit(Hit hit) {
            Tool its = toolAt(hit.tool);
            if (its == null || hitCount >= MOST_HITS) {
                return NONE;
            }
            hits[hitCount] = hit;
            its.addHit(hitCount);
            hitCount++;
            return hitCount - 1;
        }

        Tool toolAt(int number) {
            return number >= 0 && number < toolCount ? tools[number] : null;
        }

        Hit hitAt(int number) {
            return number >= 0 && number < hitCount ? hits[number] : null;
        }
    }

    /** Finds the ORDER of a TOOL's HITS; its rows serve every TOOL in turn. */
    private static final class Planner {
        // The row of the ways that lead from 0, 0, behind those of the HITS.
        private static final int START = MOST_PROVED;

        private final Hit origin = new Hit(NONE, 0, 0, 0, 0, 0, 0);
        private final Hit[] mine = new Hit[MOST_HITS];
        private final boolean[] done = new boolean[MOST_HITS];
        private final int[] ways = new int[(MOST_PROVED + 1) * MOST_PROVED];
        // The least TRAVEL still to come, by the set of HITS that are done and the last of them.
        private final int[] rest = new int[(1 << MOST_PROVED) * MOST_PROVED];
        private int count;
        // The length by which the last search chose.
        private int least;

        void plan(Drawing drawing, Tool tool) {
            if (tool.planned) {
                return;
            }
            tool.beginPlan();
            gather(drawing, tool);
            if (count <= MOST_PROVED) {
                measureWays();
                measureRest();
                planLeast(tool);
            } else {
                planNearest(tool);
            }
        }

        private void gather(Drawing drawing, Tool tool) {
            count = 0;
            for (int i = 0; i < tool.hits.count; i++) {
                Hit hit = drawing.hitAt(tool.hits.get(i));
                if (hit != null && count < MOST_HITS) {
                    mine[count] = hit;
                    done[count] = false;
                    count++;
                }
            }
        }

        private void measureWays() {
            for (int next = 0; next < count; next++) {
                for (int last = 0; last < count; last++) {
                    ways[last * MOST_PROVED + next] = mine[last].wayTo(mine[next]);
                }
                ways[START * MOST_PROVED + next] = origin.wayTo(mine[next]);
            }
        }

        // Larger sets first: what is still to come behind a set is known from the sets above it.
        private void measureRest() {
            for (int set = (1 << count) - 1; set > 0; set--) {
                for (int last = 0; last < count; last++) {
                    if ((set >> last & 1) != 0) {
                        bestNext(set, last);
                        rest[set * MOST_PROVED + last] = least;
                    }
                }
            }
        }

        // The lowest of several equal ones at each step makes the row whose numbers come first.
        private void planLeast(Tool tool) {
            int set = 0;
            int last = START;
            for (int i = 0; i < count; i++) {
                int next = bestNext(set, last);
                if (next == NONE) {
                    return;
                }
                tool.planNext(tool.hits.get(next), ways[last * MOST_PROVED + next]);
                set |= 1 << next;
                last = next;
            }
        }

        private int bestNext(int set, int last) {
            int best = NONE;
            least = 0;
            for (int next = 0; next < count; next++) {
                if ((set >> next & 1) == 0) {
                    int behind = rest[(set | 1 << next) * MOST_PROVED + next];
                    int length = ways[last * MOST_PROVED + next] + behind;
                    if (best == NONE || length < least) {
                        best = next;
                        least = length;
                    }
                }
            }
            return best;
        }

        private void planNearest(Tool tool) {
            Hit here = origin;
            for (int i = 0; i < count; i++) {
                int next = nearest(here);
                if (next == NONE) {
                    return;
                }
                tool.planNext(tool.hits.get(next), least);
                done[next] = true;
                here = mine[next];
            }
        }

        private int nearest(Hit here) {
            int best = NONE;
            least = 0;
            for (int next = 0; next < count; next++) {
                if (!done[next]) {
                    int way = here.wayTo(mine[next]);
                    if (best == NONE || way < least) {
                        best = next;
                        least = way;
                    }
                }
            }
            return best;
        }
    }

    /** Writes TEXTS, and keeps the last one until the TOOLS or HITS change. */
    private static final class TextWriter {
        private final Planner planner;
        private final Row out = new Row(MOST_WRITTEN);
        private boolean kept;
        private int keptFrom;
        private int keptTo;

        TextWriter(Planner planner) {
            this.planner = planner;
        }

        void forget() {
            kept = false;
        }

        Row textOf(Drawing drawing, int from, int to) {
            if (kept && keptFrom == from && keptTo == to) {
                return out;
            }
            kept = true;
            keptFrom = from;
            keptTo = to;
            out.empty();
            writeHead(drawing);
            for (int number = 0; number < drawing.toolCount; number++) {
                Tool tool = drawing.toolAt(number);
                if (tool != null) {
                    planner.plan(drawing, tool);
                    writeHits(drawing, tool, number);
                }
            }
            out.pushText("M30\n");
            return out;
        }

        private void writeHead(Drawing drawing) {
            out.pushText("M48\n");
            out.pushPart('L', keptFrom);
            out.pushPart(',', keptTo);
            out.push('\n');
            for (int number = 0; number < drawing.toolCount; number++) {
                Tool tool = drawing.toolAt(number);
                if (tool != null) {
                    out.pushPart('T', number);
                    out.pushPart('C', tool.diameter);
                    out.pushText(tool.plated ? "P\n" : "N\n");
                }
            }
            out.pushText("%\n");
        }

        private void writeHits(Drawing drawing, Tool tool, int number) {
            boolean named = false;
            for (int i = 0; i < tool.ordered.count; i++) {
                Hit hit = drawing.hitAt(tool.ordered.get(i));
                if (hit != null && hit.from == keptFrom && hit.to == keptTo) {
                    if (!named) {
                        out.pushPart('T', number);
                        out.push('\n');
                        named = true;
                    }
                    writeHit(hit);
                }
            }
        }

        private void writeHit(Hit hit) {
            out.pushPart('X', hit.x);
            out.pushPart('Y', hit.y);
            if (hit.isSlot()) {
                out.pushText("G85");
                out.pushPart('X', hit.endX);
                out.pushPart('Y', hit.endY);
            }
            out.push('\n');
        }
    }

    /**
     * Reads a TEXT into a new drawing. Each part tells whether it is right; if not, the reader stands
     * at the first wrong character.
     */
    private static final class TextReader {
        private static final int MOST_DIGITS = 7;

        private final Row text;
        private final Drawing drawing;
        private int place;
        private int from;
        private int to;
        private int chosen = NONE;
        private int number;
        private int placeX;
        private int placeY;

        TextReader(Row text, Drawing drawing) {
            this.text = text;
            this.drawing = drawing;
        }

        int firstWrong() {
            boolean right = readLayers() && readTools() && readHits() && place == text.count;
            return right ? NONE : place;
        }

        private boolean readLayers() {
            boolean right = passes("M48\n") && readLayerLine();
            for (int line = 0; line < MOST_UNITS && right && text.get(place) == 'L'; line++) {
                right = readLayerLine();
            }
            return right;
        }

        private boolean readTools() {
            boolean right = true;
            for (int line = 0; line < MOST_UNITS && right && text.get(place) == 'T'; line++) {
                right = readToolLine();
            }
            return right && passes("%\n");
        }

        private boolean readHits() {
            boolean right = true;
            for (int line = 0; line < MOST_UNITS && right && text.get(place) != 'M'; line++) {
                if (text.get(place) == 'X' && chosen != NONE) {
                    right = readHitLine();
                } else {
                    right = readChoiceLine();
                }
            }
            return right && passes("M30\n");
        }

        private boolean readLayerLine() {
            int start = place;
            if (!readPart('L', false)) {
                return false;
            }
            from = number;
            if (!readPart(',', false) || !passes("\n")) {
                return false;
            }
            to = number;
            return can(isLayer(from) && isLayer(to) && from <= to, start);
        }

        private boolean readToolLine() {
            int start = place;
            if (!readPart('T', false)) {
                return false;
            }
            int told = number;
            if (!readPart('C', false)) {
                return false;
            }
            boolean plated = text.get(place) == 'P';
            if (!passes(plated ? "P\n" : "N\n")) {
                return false;
            }
            return can(told == drawing.toolCount && isDiameter(number)
                    && drawing.addTool(number, plated) != NONE, start);
        }

        private boolean readChoiceLine() {
            int start = place;
            if (!readPart('T', false) || !passes("\n")) {
                return false;
            }
            chosen = number;
            return can(drawing.toolAt(chosen) != null, start);
        }

        private boolean readHitLine() {
            int start = place;
            if (!readPlace()) {
                return false;
            }
            int x = placeX;
            int y = placeY;
            boolean slotted = text.get(place) == 'G';
            if (slotted && !(passes("G85") && readPlace())) {
                return false;
            }
            if (!passes("\n")) {
                return false;
            }
            boolean places = isPlace(x, y) && isPlace(placeX, placeY);
            boolean apart = x != placeX || y != placeY;
            int low = slotted ? 0 : from;
            int high = slotted ? LAST_LAYER : to;
            return can(places && apart == slotted
                    && drawing.addHit(new Hit(chosen, x, y, placeX, placeY, low, high)) != NONE, start);
        }

        private boolean readPlace() {
            if (!readPart('X', true)) {
                return false;
            }
            placeX = number;
            if (!readPart('Y', true)) {
                return false;
            }
            placeY = number;
            return true;
        }

        private boolean readPart(char letter, boolean signed) {
            if (text.get(place) != letter) {
                return false;
            }
            place++;
            boolean below = signed && text.get(place) == '-';
            if (below) {
                place++;
            }
            int size = 0;
            int digits = 0;
            while (digits < MOST_DIGITS && isDigit(text.get(place))) {
                size = size * 10 + text.get(place) - '0';
                place++;
                digits++;
            }
            number = below ? -size : size;
            return digits > 0;
        }

        // Behind the last character the row answers NONE, which is no character of any line.
        private boolean passes(String due) {
            for (int i = 0; i < due.length(); i++) {
                if (text.get(place) != due.charAt(i)) {
                    return false;
                }
                place++;
            }
            return true;
        }

        // A line that is well formed but can not be by its numbers is wrong where it begins.
        private boolean can(boolean possible, int start) {
            if (!possible) {
                place = start;
            }
            return possible;
        }

        private static boolean isDigit(int c) {
            return c >= '0' && c <= '9';
        }
    }

    /** A FILE, with its SUM kept up as it grows. */
    private static final class StoredFile {
        private final int role;
        private final Row bytes = new Row(MOST_BYTES);
        private int total;

        StoredFile(int role) {
            this.role = role;
        }

        boolean push(int b) {
            if (!bytes.push(b)) {
                return false;
            }
            total = (total + b * bytes.count) % SUM_MODULUS;
            return true;
        }

        int joinedSize() {
            return 3 + bytes.count + 2;
        }

        int joined(int i) {
            int length = bytes.count;
            switch (i) {
                case 0: return role;
                case 1: return length % BYTE_VALUES;
                case 2: return length / BYTE_VALUES;
                default: break;
            }
            int place = i - 3;
            if (place < length) {
                return bytes.get(place);
            }
            return place == length ? total % BYTE_VALUES : total / BYTE_VALUES;
        }
    }

    /** All FILES. */
    private static final class FileSet {
        private final StoredFile[] files = new StoredFile[MOST_FILES];
        private int count;

        int add(int role) {
            if (!isRole(role) || withRole(role) != null || count >= MOST_FILES) {
                return NONE;
            }
            files[count] = new StoredFile(role);
            count++;
            return count - 1;
        }

        StoredFile fileAt(int number) {
            return number >= 0 && number < count ? files[number] : null;
        }

        StoredFile withRole(int role) {
            for (int number = 0; number < count; number++) {
                StoredFile kept = fileAt(number);
                if (kept != null && kept.role == role) {
                    return kept;
                }
            }
            return null;
        }

        int joined(int i) {
            if (i == 0) {
                return count;
            }
            int left = i - 1;
            for (int number = 0; number < count; number++) {
                StoredFile kept = fileAt(number);
                if (kept != null) {
                    if (left < kept.joinedSize()) {
                        return kept.joined(left);
                    }
                    left -= kept.joinedSize();
                }
            }
            return NONE;
        }

        boolean take(Row fed) {
            int many = fed.get(0);
            if (many < 0 || many > MOST_FILES) {
                return false;
            }
            int place = 1;
            for (int number = 0; number < many; number++) {
                place = takeFile(fed, place);
                if (place == NONE) {
                    return false;
                }
            }
            return place == fed.count;
        }

        // Where the next FILE begins; NONE when here is none.
        private int takeFile(Row fed, int place) {
            int bytesAt = place + 3;
            if (bytesAt > fed.count) {
                return NONE;
            }
            int length = pair(fed, place + 1);
            int sumAt = bytesAt + length;
            if (length > MOST_BYTES || sumAt + 2 > fed.count) {
                return NONE;
            }
            StoredFile taken = fileAt(add(fed.get(place)));
            if (taken == null) {
                return NONE;
            }
            for (int i = bytesAt; i < sumAt; i++) {
                taken.push(fed.get(i));
            }
            return taken.total == pair(fed, sumAt) ? sumAt + 2 : NONE;
        }

        private static int pair(Row fed, int place) {
            return fed.get(place) + BYTE_VALUES * fed.get(place + 1);
        }
    }
}
