import java.util.function.LongSupplier;

/** What the tests share: answers compared with those that are due, and texts put in and taken out. */
final class Check {
    static final String INDEX = "IndexOutOfBoundsException";
    static final String ARGUMENT = "IllegalArgumentException";

    private static int checks = 0;
    private static int wrong = 0;

    private Check() {
    }

    static void due(String call, long got, long want) {
        due(call, Long.toString(got), Long.toString(want));
    }

    static void due(String call, boolean got, boolean want) {
        due(call, Boolean.toString(got), Boolean.toString(want));
    }

    static void due(String call, String got, String want) {
        checks++;
        if (!got.equals(want)) {
            wrong++;
            System.out.println(call + " answered " + got + ", due is " + want);
        }
    }

    static void dueThrow(String call, String exception, LongSupplier called) {
        due(call, answer(called), exception);
    }

    /** The answer, or the plain name of what the call threw: the very class, none below it. */
    static String answer(LongSupplier called) {
        try {
            return Long.toString(called.getAsLong());
        } catch (RuntimeException e) {
            return e.getClass().getSimpleName();
        }
    }

    static void put(DrillArchive archive, String text) {
        for (int i = 0; i < text.length(); i++) {
            due("unit of " + text.charAt(i), archive.unit(text.charAt(i)), true);
        }
    }

    static String written(DrillArchive archive, int layers) {
        StringBuilder text = new StringBuilder();
        for (int i = 0; i < 10_000; i++) {
            int c = archive.write(layers, i);
            if (c == DrillArchive.NONE) {
                break;
            }
            text.append((char) c);
        }
        return text.toString();
    }

    static String joined(DrillArchive archive) {
        StringBuilder bytes = new StringBuilder();
        for (int i = 0; i < 10_000; i++) {
            int b = archive.archive(i);
            if (b == DrillArchive.NONE) {
                break;
            }
            bytes.append(i == 0 ? "" : " ").append(b);
        }
        return bytes.toString();
    }

    static void end(String test) {
        System.out.println(test + ": " + checks + " answers, " + wrong + " of them not as due");
        if (wrong != 0) {
            System.exit(1);
        }
    }
}
