/** Promises 3 (cancel), 5 (give), 7 (kind), 8 (number), 9 (count). */
public final class SmallCallsTest {
    private static final String WRONG = "IllegalArgumentException";
    private static final String KIND = "UnsupportedOperationException";

    public static void main(String[] args) {
        cancel();
        give();
        kind();
        number();
        count();
        afterTheLastCall();
        Talk.end();
    }

    private static void canceled(String text, int want) {
        Talk talk = new Talk(0);
        talk.say(text);
        Talk.due("cancel behind " + text, Talk.told(() -> talk.machine.cancel()), Integer.toString(want));
        talk.counts(6, 0);
        Talk.due("cancel again", Talk.told(() -> talk.machine.cancel()), "0");
        talk.said("(quote x)", "3");
        talk.said(")", WRONG);
    }

    private static void cancel() {
        canceled("", 0);
        canceled("abc", 0);
        canceled("'", 0);
        canceled("(a b", 1);
        canceled("(a '", 2);
        canceled("(a 'b", 2);
        canceled("(a 'b ", 1);
        canceled("(a ''(b", 4);
        canceled("((((((((((((", 12);
        canceled("(print 99999", 1);
        Talk talk = new Talk(0);
        talk.say("(quote (xx yy");
        talk.machine.cancel();
        talk.counts(5, 4);
        talk.counts(9, 0);
        talk.counts(10, 0);
        talk.said("(quote ab", "");
        talk.machine.cancel();
        talk.prints("'cd", "cd");
    }

    private static void gives(Talk talk, int number, String want) {
        Talk.due("give(" + number + ")", Talk.told(() -> talk.machine.give(number)), want);
    }

    private static void give() {
        Talk talk = new Talk(127);
        gives(talk, 32768, WRONG);
        gives(talk, -32769, WRONG);
        gives(talk, Integer.MIN_VALUE, WRONG);
        gives(talk, Integer.MAX_VALUE, WRONG);
        talk.counts(8, 0);
        gives(talk, 32767, "1");
        gives(talk, -32768, "2");
        for (int i = 3; i <= 8; i++) {
            gives(talk, i, Integer.toString(i));
        }
        gives(talk, 9, KIND);
        gives(talk, 32768, WRONG);
        talk.counts(8, 8);
        talk.prints("(list(get)(get)(get)(get))", "(32767 -32768 3 4)");
        talk.counts(8, 4);
        for (int i = 5; i <= 8; i++) {
            gives(talk, i * 10, Integer.toString(i));
        }
        gives(talk, 1, KIND);
        talk.prints("(list(get)(get)(get)(get))", "(5 6 7 8)");
        talk.prints("(list(get)(get)(get)(get))", "(50 60 70 80)");
        talk.prints("(get)", "nil");
        gives(talk, 0, "1");
    }

    private static void kindIs(Talk talk, int symbol, String want) {
        Talk.due("kind(" + symbol + ")", Talk.told(() -> talk.machine.kind(symbol)), want);
    }

    private static void kind() {
        Talk talk = new Talk(127);
        kindIs(talk, -1, WRONG);
        kindIs(talk, 3, WRONG);
        kindIs(talk, Integer.MAX_VALUE, WRONG);
        kindIs(talk, Integer.MIN_VALUE, WRONG);
        kindIs(talk, 0, "3");
        kindIs(talk, 1, "0");
        kindIs(talk, 2, "0");
        talk.say("(set a nil)");
        kindIs(talk, 3, "0");
        kindIs(talk, 4, "1");
        kindIs(talk, 5, WRONG);
        String[] values = {"nil", "5", "'a", "'(1)", "(vec 1 1)", "(fn())"};
        for (int i = 0; i < values.length; i++) {
            talk.say("(do(set a " + values[i] + ")1)");
            kindIs(talk, 4, Integer.toString(i + 1));
            kindIs(talk, 1, "2");
        }
        Talk local = new Talk(0);
        local.say("((fn(y)(set y 1)(set z 2))3)");
        Talk.due("kind of y", Talk.told(() -> local.machine.kind(4)), "0");
        Talk.due("kind of z", Talk.told(() -> local.machine.kind(6)), "2");
    }

    private static void numberIs(Talk talk, int symbol, String want) {
        Talk.due("number(" + symbol + ")", Talk.told(() -> talk.machine.number(symbol)), want);
    }

    private static void number() {
        Talk talk = new Talk(127);
        numberIs(talk, -1, WRONG);
        numberIs(talk, 3, WRONG);
        numberIs(talk, Integer.MAX_VALUE, WRONG);
        numberIs(talk, Integer.MIN_VALUE, WRONG);
        numberIs(talk, 0, "0");
        numberIs(talk, 1, KIND);
        talk.say("(set a -32768)");
        numberIs(talk, 4, "-32768");
        talk.say("(set a 'a)");
        numberIs(talk, 4, "4");
        talk.say("(set a(vec 6 9))");
        numberIs(talk, 4, "6");
        numberIs(talk, 1, "6");
        talk.say("(set a(vec 0 9))");
        numberIs(talk, 4, "0");
        for (String other : new String[] {"nil", "'(1)", "(fn())"}) {
            talk.say("(set a " + other + ")");
            numberIs(talk, 4, KIND);
        }
    }

    private static void count() {
        for (int what : new int[] {-1, 11, 12, Integer.MAX_VALUE, Integer.MIN_VALUE}) {
            Talk.due("count(" + what + ")", Talk.told(() -> new TagMachine(0).count(what)), WRONG);
        }
        Talk talk = new Talk(0);
        talk.machine.give(1);
        talk.machine.give(2);
        talk.said("(print((fn(x)(list x x))1))(car 1)(if)((", "4 " + KIND + " " + WRONG);
        int[] want = {9, 0, 0, 2, 0, 9, 2, 6, 2, 1, 2};
        for (int what = 0; what < want.length; what++) {
            talk.counts(what, want[what]);
        }
        talk.machine.collect();
        talk.counts(1, 1);
        talk.counts(2, 4);
        // a form that fails for want of room has the calls that had their frames
        Talk deep = new Talk(0);
        deep.said("(set f(fn(a b c d)(f 1 2 3 4)))(f 1 2 3 4)", "6 IllegalStateException");
        deep.counts(4, 6);
        deep.counts(0, 38);
    }

    /** Nothing is promised behind the 512th call, but that nothing else is thrown. */
    private static void afterTheLastCall() {
        Talk talk = new Talk(0);
        for (int i = 0; i < 512; i++) {
            talk.machine.count(0);
        }
        for (int i = 0; i < 5000; i++) {
            char character = "('a)(set b 1".charAt(i % 12);
            talk.machine.type(character);
        }
    }
}
