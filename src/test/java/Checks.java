/** What the tests share: calls with the answer that is due, counted when they differ. */
final class Checks {
    interface Call {
        Object answer();
    }

    private static int wrong = 0;
    private static int done = 0;

    private Checks() {
    }

    static void due(String call, Object want, Call made) {
        compare(call, told(want), answerOf(made));
    }

    static void dueThrows(String call, Class<? extends RuntimeException> want, Call made) {
        compare(call, thrown(want), answerOf(made));
    }

    /** The answer as a text; an exception by its very own class, so that the machine's own show. */
    static String answerOf(Call made) {
        try {
            return told(made.answer());
        } catch (RuntimeException e) {
            return thrown(e.getClass());
        }
    }

    static void compare(String call, String want, String got) {
        done++;
        if (!want.equals(got)) {
            wrong++;
            System.out.println(call + " answered " + got + ", due is " + want);
        }
    }

    static String told(Object answer) {
        return String.valueOf(answer);
    }

    static String thrown(Class<?> exception) {
        return "throws." + exception.getSimpleName();
    }

    static int wrongSoFar() {
        return wrong;
    }

    static void end(String test) {
        System.out.println(test + ": " + done + " answers, " + wrong + " not as due");
        if (wrong != 0) {
            System.exit(1);
        }
    }
}
