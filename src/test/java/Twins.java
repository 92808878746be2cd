/** Two machines that hear the same, but for what only one of them is told: behind it they must be alike. */
final class Twins {
    private static final int MOST_CALLS = 512;
    private static final String GET_FOUR = "(print(list(get)(get)(get)(get)))";

    private final TagMachine one;
    private final TagMachine other;
    private final StringBuilder story;
    private int calls;

    interface Call {
        int on(TagMachine machine);
    }

    Twins(int size) {
        one = new TagMachine(size);
        other = new TagMachine(size);
        story = new StringBuilder("size " + size + ": ");
    }

    void both(String text) {
        for (int i = 0; i < text.length(); i++) {
            char c = text.charAt(i);
            same(Character.toString(c), machine -> machine.type(c));
        }
    }

    void bothGive(int from, int to) {
        for (int i = from; i <= to; i++) {
            int number = i;
            same("give " + i, machine -> machine.give(number));
        }
    }

    /** Only one is told this, and must answer so. */
    void onlyOne(String name, Call call, String want) {
        calls++;
        story.append('{').append(name).append('}');
        Talk.due(story.toString(), Talk.told(() -> call.on(one)), want);
    }

    void onlyOneHears(String text, String want) {
        StringBuilder answers = new StringBuilder();
        for (int i = 0; i < text.length(); i++) {
            char c = text.charAt(i);
            calls++;
            String answer = Talk.told(() -> one.type(c));
            answers.append(answer.equals("0") ? "" : answer);
        }
        story.append('{').append(text).append('}');
        Talk.due(story.toString(), answers.toString(), want);
    }

    void onlyOtherCancels() {
        other.cancel();
    }

    /** All that can be seen is the same, also what the rest brings about, which ends what was begun. */
    void alike(String rest) {
        looks();
        both(rest);
        looks();
        takes();
        both(GET_FOUR + GET_FOUR);
        takes();
        same("collect", machine -> machine.collect());
        if (calls > MOST_CALLS) {
            Talk.due(story.toString(), calls + " calls", "at most " + MOST_CALLS);
        }
    }

    private void looks() {
        for (int i = 0; i <= 10; i++) {
            int what = i;
            same(" count " + i, machine -> machine.count(what));
        }
        calls++;
        int symbols = Math.min(one.count(5), 12);
        for (int i = 0; i <= symbols; i++) {
            int symbol = i;
            same(" kind " + i, machine -> machine.kind(symbol));
            same(" number " + i, machine -> machine.number(symbol));
        }
    }

    private void takes() {
        calls++;
        for (int i = one.count(7); i >= 0; i--) {
            same(" take", machine -> machine.take());
        }
    }

    private void same(String name, Call call) {
        calls++;
        story.append(name);
        Talk.due(story.toString(), Talk.told(() -> call.on(one)), Talk.told(() -> call.on(other)));
    }
}
