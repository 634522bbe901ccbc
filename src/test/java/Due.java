/** Counts and prints the answers that are not as due; shared by the tests. */
final class Due {
    /** A call that may throw. */
    interface Call {
        long answer();
    }

    static final long INDEX = Long.MIN_VALUE;
    static final long ARGUMENT = Long.MIN_VALUE + 1;
    static final long OTHER = Long.MIN_VALUE + 2;

    private static int wrong = 0;

    private Due() {
    }

    static void due(String what, long want, Call call) {
        long got = answerOf(call);
        if (got != want) {
            wrong++;
            System.out.println(what + " answered " + text(got) + ", due is " + text(want));
        }
    }

    static void dueTrue(String what, boolean got) {
        due(what, 1, () -> got ? 1 : 0);
    }

    /** The answer, or which exception came; only the very classes that the document names are told apart. */
    static long answerOf(Call call) {
        try {
            return call.answer();
        } catch (RuntimeException e) {
            if (e.getClass() == IndexOutOfBoundsException.class) {
                return INDEX;
            }
            return e.getClass() == IllegalArgumentException.class ? ARGUMENT : OTHER;
        }
    }

    static long bit(boolean answer) {
        return answer ? 1 : 0;
    }

    static int number(int s, int v, int o) {
        return 4096 * s + 64 * v + o;
    }

    /** The facts of a graph, read through its face. */
    static String facts(MergeGraphs x, int graph) {
        StringBuilder text = new StringBuilder();
        int count = x.size(graph, 0);
        for (int k = 0; k < count; k++) {
            text.append(factText(x.fact(graph, k)));
        }
        return text.toString().trim();
    }

    static String form(MergeGraphs x, int graph) {
        StringBuilder text = new StringBuilder();
        int count = x.size(graph, 0);
        for (int k = 0; k < count; k++) {
            text.append(factText(x.form(graph, k)));
        }
        return text.toString().trim();
    }

    private static String factText(int number) {
        return number / 4096 + " " + number / 64 % 64 + " " + number % 64 + "; ";
    }

    static void dueText(String what, String want, String got) {
        if (!want.equals(got)) {
            wrong++;
            System.out.println(what + " is '" + got + "', due is '" + want + "'");
        }
    }

    /** Facts written as "s v o; s v o;" are put in a graph. */
    static void fill(MergeGraphs x, int graph, String facts) {
        for (String fact : facts.split(";")) {
            if (!fact.isBlank()) {
                String[] words = fact.trim().split(" +");
                x.put(graph, Integer.parseInt(words[0]), Integer.parseInt(words[1]), Integer.parseInt(words[2]));
            }
        }
    }

    static void end(String test) {
        System.out.println(test + ": " + (wrong == 0 ? "all answers are as due" : wrong + " answers are not as due"));
        if (wrong != 0) {
            System.exit(1);
        }
    }

    private static String text(long answer) {
        if (answer == INDEX) {
            return "throws.IndexOutOfBoundsException";
        }
        if (answer == ARGUMENT) {
            return "throws.IllegalArgumentException";
        }
        return answer == OTHER ? "throws something else" : Long.toString(answer);
    }
}
