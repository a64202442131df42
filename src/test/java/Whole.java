import java.util.function.Consumer;
import java.util.function.ToLongFunction;

/**
 * All that an object answers after some calls, one line an answer. It is asked of as many objects of the
 * same calls as it takes, so that none of them gets more than its 512 calls.
 */
final class Whole {
    private static final int ASKED_OF_ONE = 60;

    private final Consumer<DrillArchive> calls;
    private final StringBuilder answers = new StringBuilder();
    private DrillArchive now;
    private int asked = ASKED_OF_ONE;

    private Whole(Consumer<DrillArchive> calls) {
        this.calls = calls;
    }

    /** As it is now, and as it is once its text is read or its bytes are opened. */
    static String of(Consumer<DrillArchive> calls) {
        return new Whole(calls).all() + "read:\n" + new Whole(calls.andThen(a -> a.read())).all()
                + "open:\n" + new Whole(calls.andThen(a -> a.open())).all();
    }

    /** As it is now, but for what calls that change it would answer. */
    static String seen(Consumer<DrillArchive> calls) {
        Whole whole = new Whole(calls);
        whole.askNow();
        return whole.answers.toString();
    }

    private String all() {
        askNow();
        askWhatComesNext();
        return answers.toString();
    }

    private void askNow() {
        askTools();
        askHits();
        askTexts();
        askFiles();
    }

    private String ask(String call, ToLongFunction<DrillArchive> question) {
        if (asked >= ASKED_OF_ONE) {
            now = new DrillArchive();
            calls.accept(now);
            asked = 0;
        }
        asked++;
        String answer = Check.answer(() -> question.applyAsLong(now));
        answers.append(call).append(" = ").append(answer).append("\n");
        return answer;
    }

    /** A call that changes what others answer gets an object of its own. */
    private void askAlone(String call, ToLongFunction<DrillArchive> question) {
        asked = ASKED_OF_ONE;
        ask(call, question);
        asked = ASKED_OF_ONE;
    }

    private static boolean isNumber(String answer) {
        return !answer.equals(Check.INDEX) && !answer.equals("-1");
    }

    private void askTools() {
        for (int t = -1; t <= 10; t++) {
            int tool = t;
            ask("travel(" + tool + ")", a -> a.travel(tool));
            ask("proved(" + tool + ")", a -> a.proved(tool) ? 1 : 0);
            ask("order(" + tool + ", -1)", a -> a.order(tool, -1));
            boolean more = true;
            for (int i = 0; more && i <= 60; i++) {
                int k = i;
                more = isNumber(ask("order(" + tool + ", " + k + ")", a -> a.order(tool, k)));
            }
        }
    }

    private void askHits() {
        boolean more = true;
        for (int i = 0; more && i <= 60; i++) {
            int k = i;
            for (int w = 0; w < 8; w++) {
                int what = w;
                more = !ask("at(" + k + ", " + what + ")", a -> a.at(k, what)).equals(Check.INDEX);
            }
        }
    }

    private void askTexts() {
        for (int l = 0; l <= 77; l++) {
            int layers = l;
            boolean more = true;
            for (int k = 0; more && k < 3_000; k++) {
                int i = k;
                more = isNumber(ask("write(" + layers + ", " + i + ")", a -> a.write(layers, i)));
            }
        }
    }

    private void askFiles() {
        boolean more = true;
        for (int k = 0; more && k < 3_000; k++) {
            int i = k;
            more = isNumber(ask("archive(" + i + ")", a -> a.archive(i)));
        }
        ask("agrees()", a -> a.agrees() ? 1 : 0);
        for (int i = -1; i <= 8; i++) {
            int k = i;
            ask("sum(" + k + ")", a -> a.sum(k));
            ask("told(" + k + ")", a -> a.told(k));
        }
    }

    private void askWhatComesNext() {
        askAlone("read()", a -> a.read());
        askAlone("open()", a -> a.open());
        askAlone("tool(1, true)", a -> a.tool(1, true));
        askAlone("hole(0, 0, 0, 0, 0)", a -> a.hole(0, 0, 0, 0, 0));
        askAlone("slot(0, 0, 0, 0, 1)", a -> a.slot(0, 0, 0, 0, 1));
        for (int r = 0; r < 8; r++) {
            int role = r;
            askAlone("file(" + role + ")", a -> a.file(role));
        }
        for (int f = 0; f < 8; f++) {
            int file = f;
            askAlone("byteOf(" + file + ", 0)", a -> a.byteOf(file, 0) ? 1 : 0);
        }
    }
}
