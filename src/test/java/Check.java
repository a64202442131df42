import java.util.function.Consumer;
import java.util.function.LongSupplier;
import java.util.function.ToLongFunction;

/** What the tests share: answers compared with those that are due, and texts put in and taken out. */
final class Check {
    static final String INDEX = "IndexOutOfBoundsException";
    static final String ARGUMENT = "IllegalArgumentException";

    private static int tests = 0;
    private static int checks = 0;
    private static int wrong = 0;

    private Check() {
    }

    /** One sentence of the document with a test of its own: what fails in it leaves the others to run. */
    static void test(String sentence, Runnable body) {
        int before = wrong;
        tests++;
        try {
            body.run();
        } catch (RuntimeException e) {
            wrong++;
            System.out.println("threw " + e);
        }
        if (wrong != before) {
            System.out.println("    does not hold: " + sentence);
        }
    }

    /** A call that is refused answers so, and leaves all as it was: as if the object never got it. */
    static void refused(String call, Consumer<DrillArchive> made, ToLongFunction<DrillArchive> refused, String want) {
        DrillArchive archive = new DrillArchive();
        made.accept(archive);
        due(call, answer(() -> refused.applyAsLong(archive)), want);
        Consumer<DrillArchive> andRefused = made.andThen(a -> answer(() -> refused.applyAsLong(a)));
        same("after " + call, Whole.of(andRefused), Whole.of(made));
    }

    /** As due, with the first line told in which the two differ. */
    static void same(String call, String got, String want) {
        String[] gotLines = got.split("\n");
        String[] wantLines = want.split("\n");
        for (int i = 0; i < Math.min(gotLines.length, wantLines.length); i++) {
            if (!gotLines[i].equals(wantLines[i])) {
                due(call, gotLines[i], wantLines[i]);
                return;
            }
        }
        due(call, gotLines.length, wantLines.length);
    }

    static void due(String call, long got, long want) {
        due(call, Long.toString(got), Long.toString(want));
    }

    static void due(String call, boolean got, boolean want) {
        due(call, Boolean.toString(got), Boolean.toString(want));
    }

    static void due(String call, String got, String want) {
        checks++;
        if (!got.equals(want)) {
            wrong++;
            System.out.println(call + " answered " + got + ", due is " + want);
        }
    }

    static void dueThrow(String call, String exception, LongSupplier called) {
        due(call, answer(called), exception);
    }

    /** The answer, or the plain name of what the call threw: the very class, none below it. */
    static String answer(LongSupplier called) {
        try {
            return Long.toString(called.getAsLong());
        } catch (RuntimeException e) {
            return e.getClass().getSimpleName();
        }
    }

    static void put(DrillArchive archive, String text) {
        for (int i = 0; i < text.length(); i++) {
            due("unit of " + text.charAt(i), archive.unit(text.charAt(i)), true);
        }
    }

    static String written(DrillArchive archive, int layers) {
        StringBuilder text = new StringBuilder();
        for (int i = 0; i < 10_000; i++) {
            int c = archive.write(layers, i);
            if (c == DrillArchive.NONE) {
                break;
            }
            text.append((char) c);
        }
        return text.toString();
    }

    static String joined(DrillArchive archive) {
        StringBuilder bytes = new StringBuilder();
        for (int i = 0; i < 10_000; i++) {
            int b = archive.archive(i);
            if (b == DrillArchive.NONE) {
                break;
            }
            bytes.append(i == 0 ? "" : " ").append(b);
        }
        return bytes.toString();
    }

    static void end(String test) {
        String own = tests == 0 ? "" : tests + " sentences, ";
        System.out.println(test + ": " + own + checks + " answers, " + wrong + " of them not as due");
        if (wrong != 0) {
            System.exit(1);
        }
    }
}
