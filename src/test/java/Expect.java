import java.util.concurrent.Callable;

/** Counts the calls whose answer is not the one that is due, and prints them. */
final class Expect {
    static final String ARGUMENT = "throws.IllegalArgumentException";
    static final String STATE = "throws.IllegalStateException";
    static final String PLACE = "throws.IndexOutOfBoundsException";
    /** What a call that answers nothing, and throws nothing, is written as. */
    static final String FINE = "fine";

    private int checks = 0;
    private int wrong = 0;

    /** What a call answers, or the exact class of what it throws. */
    static String answerOf(Callable<?> call) {
        try {
            return String.valueOf(call.call());
        } catch (Exception e) {
            return "throws." + e.getClass().getSimpleName();
        }
    }

    static String outcomeOf(Runnable call) {
        return answerOf(() -> {
            call.run();
            return FINE;
        });
    }

    void answers(Object due, String what, Callable<?> call) {
        same(String.valueOf(due), what, answerOf(call));
    }

    void does(String what, Runnable call) {
        same(FINE, what, outcomeOf(call));
    }

    void refuses(String due, String what, Runnable call) {
        same(due, what, outcomeOf(call));
    }

    void same(String due, String what, String got) {
        checks++;
        if (!due.equals(got)) {
            wrong++;
            if (wrong <= 20) {
                System.out.println(what + " answered " + got + ", due is " + due);
            }
        }
    }

    /** Ends the test, with exit code 1 if an answer was wrong. */
    void end() {
        System.out.println(checks + " checks, " + wrong + " wrong");
        if (wrong != 0 || checks == 0) {
            System.exit(1);
        }
    }

    static void addAll(NormalForms forms, int... characters) {
        for (int character : characters) {
            forms.add(character, -1, -1, -1, -1);
        }
    }

    /** The form asked for last, read by at. */
    static String shown(NormalForms forms) {
        StringBuilder all = new StringBuilder();
        for (int i = 0; i < 3000 && forms.at(i) != -1; i++) {
            all.append(i == 0 ? "" : " ").append(forms.at(i));
        }
        return all.toString();
    }

    static String formOf(NormalForms forms, int form) {
        String answer = answerOf(() -> forms.form(form));
        return answer.startsWith("throws.") ? answer : shown(forms);
    }
}
