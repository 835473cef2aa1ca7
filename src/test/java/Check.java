/** Counts the answers that are not as due; each test ends by asking for the outcome. */
final class Check {
    private static int asked = 0;
    private static int wrong = 0;

    private Check() {
    }

    interface Call {
        Object run();
    }

    static void is(String what, Object got, Object want) {
        asked++;
        if (!got.equals(want)) {
            wrong++;
            System.out.println(what + " answered " + got + ", due is " + want);
        }
    }

    /** What a call answers, or the class that it throws. */
    static Object answer(Call call) {
        try {
            return call.run();
        } catch (RuntimeException thrown) {
            return thrown.getClass().getSimpleName();
        }
    }

    static void fails(String what, Class<? extends RuntimeException> kind, Call call) {
        is(what, answer(call), kind.getSimpleName());
    }

    /** A change that is refused for a reason, with its detail, and outside a text. */
    static void refused(MirageSurvey survey, String what, int kind, int detail, Call call) {
        fails(what, UnsupportedOperationException.class, call);
        reason(survey, what, kind, detail, 0);
    }

    static void reason(MirageSurvey survey, String what, int kind, int detail, int command) {
        is(what + ", reason", survey.reason(0), kind);
        is(what + ", detail", survey.reason(1), detail);
        is(what + ", command", survey.reason(2), command);
    }

    static void append(MirageSurvey survey, String text) {
        for (int index = 0; index < text.length(); index++) {
            survey.append(text.charAt(index));
        }
    }

    static Object commands(MirageSurvey survey, String text) {
        append(survey, text);
        return answer(survey::commands);
    }

    static String line(MirageSurvey survey, int sheet) {
        int length = survey.line(sheet);
        StringBuilder line = new StringBuilder();
        for (int index = 0; index < length; index++) {
            line.append(survey.character(index));
        }
        return line.toString();
    }

    static void end() {
        System.out.println(asked + " answers, " + wrong + " wrong");
        if (wrong > 0 || asked == 0) {
            System.exit(1);
        }
    }
}
