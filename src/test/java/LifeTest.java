import java.util.function.Consumer;
import java.util.function.ToLongFunction;

/** 'What it is' and 'Not promised': an object's 512 calls, what the calls change and what they leave. */
public final class LifeTest {
    private static final int MOST_CALLS = 512;
    /** How many calls Made.withoutText takes. */
    private static final int CALLS_OF_MADE = 56;

    public static void main(String[] args) {
        lastCalls();
        changes();
        fromTextToText();
        Check.end("LifeTest");
    }

    private static void lastCalls() {
        Check.test("What it is: the 512th call reads a text of 511 characters", LifeTest::longestText);
        Check.test("What it is: the 512th call opens an archive of 511 bytes", LifeTest::longestArchive);
        Check.test("What it is: the 512th call behind calls that were all refused", LifeTest::allRefused);
        Check.test("What it is: the 512th call of each that asks", LifeTest::askedTillTheLast);
        Check.test("What it is: the 512th call behind reads that all failed", () -> {
            DrillArchive a = new DrillArchive();
            Check.put(a, "M48\nL0,1\nT0C5P\n%\nT0\nX0Y0\nM30");
            for (int call = 29; call < MOST_CALLS; call++) {
                a.read();
            }
            Check.due("read", a.read(), -1 - 28);
        });
        Check.test("What it is: the 512th call behind texts that were all read", () -> {
            DrillArchive a = new DrillArchive();
            for (int round = 0; round < 32; round++) {
                Check.put(a, "M48\nL0,1\n%\nM30\n");
                Check.due("read", a.read(), 0);
            }
        });
        Check.test("What it is: the 512th call behind 511 times clear", () -> {
            DrillArchive a = new DrillArchive();
            for (int call = 1; call < MOST_CALLS; call++) {
                a.clear();
            }
            Check.due("tool", a.tool(5, true), 0);
        });
    }

    private static void longestText() {
        String text = "M48\n" + "L0000001,0000002\n".repeat(24) + "T0C5P\n%\nT0\n" + "X1Y-2\n".repeat(12)
                + "T0\nT0000000\nM30\n";
        Check.due("characters", text.length(), MOST_CALLS - 1);
        DrillArchive a = new DrillArchive();
        Check.put(a, text);
        Check.due("read", a.read(), 12);
    }

    private static void longestArchive() {
        DrillArchive a = new DrillArchive();
        feed(a, 2);
        feedZeros(a, 3, 300);
        feedZeros(a, 0, 200);
        Check.due("open", a.open(), 2);
    }

    private static void feedZeros(DrillArchive a, int role, int length) {
        feed(a, role);
        feed(a, length % 256);
        feed(a, length / 256);
        for (int i = 0; i < length + 2; i++) {
            feed(a, 0);
        }
    }

    private static void feed(DrillArchive a, int b) {
        Check.due("feed(" + b + ")", a.feed(b), true);
    }

    private static void allRefused() {
        DrillArchive a = new DrillArchive();
        for (int call = 1; call < MOST_CALLS; call++) {
            switch (call % 5) {
                case 0: Check.answer(() -> a.tool(0, true)); break;
                case 1: Check.answer(() -> a.hole(0, 0, 0, 0, 0)); break;
                case 2: a.unit(0); break;
                case 3: a.feed(256); break;
                default: Check.answer(() -> a.file(8));
            }
        }
        Check.due("write(7, 14)", a.write(7, 14), '\n');
    }

    private static void askedTillTheLast() {
        askedTillTheLast("write(12, 32)", 'T', a -> a.write(12, 32));
        askedTillTheLast("at(4, 4)", -21, a -> a.at(4, 4));
        askedTillTheLast("order(0, 0)", 1, a -> a.order(0, 0));
        askedTillTheLast("travel(1)", 13, a -> a.travel(1));
        askedTillTheLast("proved(2)", 1, a -> a.proved(2) ? 1 : 0);
        askedTillTheLast("archive(1)", 4, a -> a.archive(1));
        askedTillTheLast("agrees()", 0, a -> a.agrees() ? 1 : 0);
        askedTillTheLast("told(0)", 1, a -> a.told(0));
        askedTillTheLast("sum(1)", 400, a -> a.sum(1));
    }

    private static void askedTillTheLast(String call, long want, ToLongFunction<DrillArchive> asked) {
        DrillArchive a = new DrillArchive();
        Made.withoutText(a);
        for (int number = CALLS_OF_MADE + 1; number < MOST_CALLS; number++) {
            asked.applyAsLong(a);
        }
        Check.due(call, asked.applyAsLong(a), want);
    }

    private static void changes() {
        Check.test("Not promised: no other state changes: calls that ask leave all as it was", () ->
                Check.same("asked", Whole.of(made(Made::some, LifeTest::askEach)), Whole.of(Made::some)));
        Check.test("Not promised: no other state changes: unit leaves TOOLS, HITS, FILES and what was fed", () -> {
            seenAlike("unit", Made::withoutText, a -> a.unit('M'), a -> { });
            seenAlike("unit, open", Made::withoutText, a -> a.unit('M'), a -> a.open());
        });
        Check.test("Not promised: no other state changes: feed leaves TOOLS, HITS, FILES and the text", () -> {
            seenAlike("feed", Made::some, a -> a.feed(1), a -> { });
            seenAlike("feed, read", Made::some, a -> a.feed(1), a -> a.read());
        });
        Check.test("Not promised: no other state changes: byteOf and file leave TOOLS, HITS and their TEXTS", () -> {
            DrillArchive a = new DrillArchive();
            Made.withoutText(a);
            String text = Check.written(a, 12);
            a.file(3);
            a.byteOf(2, 9);
            Check.due("write", Check.written(a, 12), text);
        });
        Check.test("Not promised: no answer hangs on calls of another object in between", LifeTest::inTurn);
    }

    private static Consumer<DrillArchive> made(Consumer<DrillArchive> first, Consumer<DrillArchive> then) {
        return first.andThen(then);
    }

    /** Whether a call between others is seen in nothing that can be asked behind them. */
    private static void seenAlike(String calls, Consumer<DrillArchive> first, Consumer<DrillArchive> between,
            Consumer<DrillArchive> last) {
        Check.same(calls, Whole.seen(made(made(first, between), last)), Whole.seen(made(first, last)));
    }

    private static void askEach(DrillArchive a) {
        a.write(7, 3);
        a.write(12, 500);
        a.at(4, 7);
        a.order(0, 1);
        a.order(1, 9);
        a.travel(2);
        a.proved(0);
        a.archive(0);
        a.archive(2_000);
        a.agrees();
        a.told(0);
        a.told(9);
        a.sum(1);
    }

    private static void inTurn() {
        DrillArchive one = new DrillArchive();
        DrillArchive other = new DrillArchive();
        one.tool(5, true);
        other.tool(6, false);
        one.hole(0, 9, 0, 0, 1);
        other.slot(0, 3, 0, 50, 0);
        one.file(1);
        other.file(6);
        one.unit('M');
        for (int round = 0; round < 3; round++) {
            Check.due("one.travel(0)", one.travel(0), 9);
            Check.due("other.travel(0)", other.travel(0), 3);
            Check.due("one.write", Check.written(one, 1), "M48\nL0,1\nT0C5P\n%\nT0\nX9Y0\nM30\n");
            Check.due("other.write", Check.written(other, 7), "M48\nL0,7\nT0C6N\n%\nT0\nX3Y0G85X50Y0\nM30\n");
        }
        Check.due("one.read()", one.read(), -2);
        Check.due("other.read()", other.read(), -1);
        Check.due("one.told(0)", one.told(0), 1);
        Check.due("other.told(0)", other.told(0), 6);
    }

    private static void fromTextToText() {
        Check.test("all: TEXTS become FILES, FILES an ARCHIVE, and all of it is found again", () -> {
            DrillArchive drawn = new DrillArchive();
            drawn.tool(5, true);
            drawn.hole(0, 4, -4, 0, 2);
            drawn.hole(0, 1, 1, 0, 2);
            String text = Check.written(drawn, 2);
            drawn.file(2);
            Made.fill(drawn, 0, text);
            Check.due("drawn agrees", drawn.agrees(), true);
            DrillArchive found = new DrillArchive();
            Made.feed(found, Check.joined(drawn));
            Check.due("open", found.open(), 1);
            Check.due("not yet", found.told(0), 2);
            Check.put(found, text);
            Check.due("read", found.read(), 2);
            Check.due("found agrees", found.agrees(), true);
            found.hole(0, 0, 0, 0, 2);
            Check.due("no more with one hole more", found.agrees(), false);
        });
    }
}
