/** Talks with one machine and tells every answer as a text; also counts the answers that are not as due. */
final class Talk {
    private static int wrong;
    private static int asked;

    final TagMachine machine;
    private int typed;

    interface Call {
        int answer();
    }

    Talk(int size) {
        machine = new TagMachine(size);
    }

    /** The number that a call answers, or the name of what it throws, by its exact class. */
    static String told(Call call) {
        try {
            return Integer.toString(call.answer());
        } catch (RuntimeException e) {
            // a division by zero of the Java machine bears this text, a throw statement another
            if ("/ by zero".equals(e.getMessage())) {
                return "the machine's own ArithmeticException";
            }
            return e.getClass().getSimpleName();
        }
    }

    /** Types all characters; all answers but 0, with a space between. */
    String say(String text) {
        StringBuilder answers = new StringBuilder();
        for (int i = 0; i < text.length(); i++) {
            char c = text.charAt(i);
            typed++;
            String answer = told(() -> machine.type(c));
            if (!answer.equals("0")) {
                answers.append(answers.length() == 0 ? "" : " ").append(answer);
            }
        }
        notTooLong();
        return answers.toString();
    }

    /** Takes all of the output. */
    String printed() {
        int length = machine.count(7);
        StringBuilder text = new StringBuilder();
        for (int i = 0; i < length; i++) {
            text.append((char) machine.take());
        }
        typed += length + 1;
        notTooLong();
        return text.toString();
    }

    private void notTooLong() {
        if (typed > 512) {
            wrong++;
            System.out.println("the test talks too long: nothing is promised behind the 512th call");
        }
    }

    void said(String text, String want) {
        due(text, say(text), want);
    }

    /** A form that a new machine is to print so. */
    static void fresh(String form, String want) {
        new Talk(127).prints(form, want);
    }

    /** A form that is to be printed so. */
    void prints(String form, String want) {
        String answer = say("(print " + form + ")");
        due("(print " + form + ")", answer.length() == 1 ? printed() : answer, want + "\n");
    }

    void counts(int what, int want) {
        due("count(" + what + ")", told(() -> machine.count(what)), Integer.toString(want));
    }

    static void due(String what, String got, String want) {
        asked++;
        if (!got.equals(want)) {
            wrong++;
            System.out.println(what + " answered " + got + ", due is " + want);
        }
    }

    /** Ends a test, with exit code 1 if an answer was wrong. */
    static void end() {
        System.out.println(asked + " answers, " + wrong + " of them wrong");
        if (wrong != 0) {
            System.exit(1);
        }
    }
}
