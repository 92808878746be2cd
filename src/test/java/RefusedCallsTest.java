/** Promises 1 and 3 to 9 at their edges; what a refused call must not change is seen by a twin that was not called so. */
public final class RefusedCallsTest {
    private static final String WRONG = "IllegalArgumentException";
    private static final String KIND = "UnsupportedOperationException";
    private static final String NONE = "NoSuchElementException";
    private static final int LEAST = Integer.MIN_VALUE;
    private static final int GREATEST = Integer.MAX_VALUE;
    /** States of a machine, each with what ends what was begun there. */
    private static final String[][] STATES = {{"", ""}, {"ab", "c(do 1)"}, {"(do 'a", "b)"}, {"(do '(a ", "b))"},
        {"(do(print '(1 2))(set a(vec 2 1)))", "(do a)"}, {"(car 5)(if)", "(do 1)"}, {"(set b(fn(x)x))(b 3", "4)"}};

    public static void main(String[] args) {
        sizes();
        cancelAnswers();
        cancelDrops();
        cancelOutside();
        takeNothing();
        giveOutOfRange();
        giveTooMany();
        giveRefusesInOrder();
        collectChangesWordsAlone();
        kindOfNoSymbol();
        kindOfEach();
        numberOfNoSymbol();
        numberOfOthers();
        countOfNothing();
        countsOfForms();
        lastCall();
        Talk.end();
    }

    /** "SIZE is 40 plus size modulo 128 (0 .. 127)": a heap of so many words, and not one more. */
    private static void sizes() {
        int[] sizes = {0, 1, 2, 126, 127, 128, 129, 255, 256, -1, -2, -126, -127, -128, -129, -256, GREATEST, LEAST,
            GREATEST - 127, LEAST + 127};
        for (int size : sizes) {
            int words = 40 + (int) ((size % 128L + 128L) % 128L);
            Talk talk = new Talk(size);
            // a chain of vectors of 8 words, then one of as many as are left, then one of one word more
            talk.said("(set n " + words / 8 + ")(set a nil)(while(< 0 n)(set a(vec 7 a))(set n(- n 1)))", "2 1 1");
            talk.counts(0, words / 8 * 8);
            if (words % 8 > 0) {
                talk.said("(set b(vec " + (words % 8 - 1) + " 0))", "5");
            }
            talk.counts(0, words);
            talk.counts(1, 0);
            talk.said("(vec 0 0)", "IllegalStateException");
            talk.counts(0, words);
        }
    }

    private static void refusedEverywhere(String name, Twins.Call call, String want) {
        for (String[] state : STATES) {
            Twins twins = new Twins(0);
            twins.both(state[0]);
            twins.onlyOne(name, call, want);
            twins.alike(state[1]);
        }
    }

    /** "Answers how many ( and ' were open." */
    private static void cancelAnswers() {
        for (int open = 0; open <= 12; open++) {
            for (String sign : new String[] {"(", "'"}) {
                Talk talk = new Talk(0);
                talk.say(open == 0 ? "" : "(" + sign.repeat(open - 1));
                talk.counts(6, open);
                Talk.due("cancel", Talk.told(() -> talk.machine.cancel()), Integer.toString(open));
                talk.counts(6, 0);
                Talk.due("cancel again", Talk.told(() -> talk.machine.cancel()), "0");
            }
        }
    }

    /** "What was read of a FORM is dropped." */
    private static void cancelDrops() {
        String[] begun = {"(", "(a", "(a ", "(a b", "('", "('a", "('a ", "((a) 'b '(c", "(print 5", "(99999", "(abcdefg",
            "(do(print 5)", "((((((((((((", "(''''"};
        for (String text : begun) {
            Talk talk = new Talk(0);
            talk.said("(do(print 1)2)" + text, "2");
            int symbols = talk.machine.count(5);
            talk.machine.cancel();
            talk.counts(5, symbols);
            // READING goes on outside: an atom that was begun has no rest
            talk.said("bc 'd", "");
            talk.counts(5, symbols);
            talk.said(")", WRONG);
            talk.said("(do 3)", "2");
            talk.counts(3, 2);
            talk.counts(9, 2);
            talk.counts(10, 0);
            Talk.due("only the first form has printed", talk.printed(), "1\n");
        }
    }

    /** Outside nothing was read of a FORM. */
    private static void cancelOutside() {
        for (String text : new String[] {"", "ab", "'", "ab ", "(do 1)", "(do 1)ab", "(car 5)", ")", "(do 99999)"}) {
            Twins twins = new Twins(0);
            twins.both(text);
            twins.onlyOne("cancel", machine -> machine.cancel(), "0");
            twins.alike("c(quote d)");
        }
    }

    /** "None: NoSuchElementException." */
    private static void takeNothing() {
        Twins twins = new Twins(0);
        twins.bothGive(1, 3);
        twins.onlyOne("take", machine -> machine.take(), NONE);
        twins.onlyOne("take", machine -> machine.take(), NONE);
        twins.both("(do 'a");
        twins.onlyOne("take", machine -> machine.take(), NONE);
        twins.alike("b)(print 1)");
        Talk talk = new Talk(0);
        talk.said("(print 1)", "2");
        for (String want : new String[] {"49", "10", NONE, NONE}) {
            Talk.due("take", Talk.told(() -> talk.machine.take()), want);
        }
        talk.counts(7, 0);
    }

    /** "number -32768 .. 32767 comes to the INPUT": else IllegalArgumentException. */
    private static void giveOutOfRange() {
        for (int number : new int[] {32768, -32769, 32769, 65535, 65536, -65536, 98304, GREATEST, LEAST}) {
            refusedEverywhere("give " + number, machine -> machine.give(number), WRONG);
        }
        for (int number : new int[] {32767, -32768, 32766, -32767, 0, -1}) {
            Talk talk = new Talk(0);
            Talk.due("give " + number, Talk.told(() -> talk.machine.give(number)), "1");
            talk.said("(get)", "2");
            Talk.due("get", Talk.told(() -> talk.machine.number(1)), Integer.toString(number));
        }
    }

    /** "which has at most 8: else UnsupportedOperationException. Answers how many it has." */
    private static void giveTooMany() {
        Talk talk = new Talk(0);
        for (int i = 1; i <= 8; i++) {
            int number = i;
            Talk.due("give", Talk.told(() -> talk.machine.give(number)), Integer.toString(i));
            talk.counts(8, i);
        }
        Talk.due("the 9th", Talk.told(() -> talk.machine.give(9)), KIND);
        talk.counts(8, 8);
        talk.said("(get)", "2");
        Talk.due("give again", Talk.told(() -> talk.machine.give(9)), "8");
        Talk.due("the 10th", Talk.told(() -> talk.machine.give(10)), KIND);
        Twins twins = new Twins(0);
        twins.bothGive(1, 8);
        twins.onlyOne("give 9", machine -> machine.give(9), KIND);
        twins.onlyOne("give 0", machine -> machine.give(0), KIND);
        twins.both("(get)(get)(get)");
        twins.bothGive(20, 22);
        twins.onlyOne("give 9", machine -> machine.give(9), KIND);
        twins.alike("");
    }

    /** "Of several exceptions of another call the one named first is thrown, and it changes nothing." */
    private static void giveRefusesInOrder() {
        Twins twins = new Twins(0);
        twins.bothGive(1, 7);
        twins.onlyOne("give", machine -> machine.give(32768), WRONG);
        twins.bothGive(8, 8);
        twins.onlyOne("give", machine -> machine.give(32768), WRONG);
        twins.onlyOne("give", machine -> machine.give(-32769), WRONG);
        twins.onlyOne("give", machine -> machine.give(32767), KIND);
        twins.onlyOne("give", machine -> machine.give(-32768), KIND);
        twins.alike("");
    }

    /** A COLLECTION changes nothing but the counts 0, 1 and 2. */
    private static void collectChangesWordsAlone() {
        Talk talk = new Talk(0);
        talk.machine.give(4);
        talk.said("(do(print 1)(set a(list 1 2))(vec 3 0)((fn(x)x)1))(car 5)(if)(do 'b", "2 " + KIND + " " + WRONG);
        int[] want = {4 + 4 + 2 + 3, 0, 0, 2, 0, talk.machine.count(5), 2, 2, 1, 1, 2};
        for (int what = 0; what < want.length; what++) {
            talk.counts(what, want[what]);
        }
        Talk.due("collect", Talk.told(() -> talk.machine.collect()), "4");
        want[0] = 4;
        want[1] = 1;
        want[2] = 4;
        for (int what = 0; what < want.length; what++) {
            talk.counts(what, want[what]);
        }
        talk.said("c)", "3");
        talk.prints("(list it a)", "1\n(bc (1 2))");
    }

    /** "There is no such SYMBOL: IllegalArgumentException." */
    private static void kindOfNoSymbol() {
        for (int symbol : new int[] {-1, -2, 40, 41, 256, GREATEST, LEAST}) {
            refusedEverywhere("kind " + symbol, machine -> machine.kind(symbol), WRONG);
        }
        edgeOfSymbols((machine, symbol) -> machine.kind(symbol), "0");
    }

    private interface OfSymbol {
        int on(TagMachine machine, int symbol);
    }

    /** The last symbol there is, and the first that is not yet. */
    private static void edgeOfSymbols(OfSymbol call, String ofLast) {
        Talk talk = new Talk(0);
        talk.say("(quote ");
        for (int symbols = 3; symbols <= 40; symbols++) {
            int next = symbols;
            Talk.due("the last of " + symbols, Talk.told(() -> call.on(talk.machine, next - 1)), ofLast);
            Talk.due("the one behind " + symbols, Talk.told(() -> call.on(talk.machine, next)), WRONG);
            talk.counts(5, symbols);
            talk.said("s" + symbols + " ", symbols == 40 ? WRONG : "");
        }
    }

    /** "The KIND of the VALUE of a SYMBOL, as type answers it, 0 without one." */
    private static void kindOfEach() {
        String[] values = {"nil", "0", "'nill", "'(nil)", "(vec 0 0)", "(fn())"};
        for (int i = 0; i < values.length; i++) {
            String want = Integer.toString(i + 1);
            Talk talk = new Talk(0);
            talk.said("(set a " + values[i] + ")", want);
            Talk.due("kind of it", Talk.told(() -> talk.machine.kind(1)), want);
            Talk.due("kind of a", Talk.told(() -> talk.machine.kind(4)), want);
            Talk.due("kind of set", Talk.told(() -> talk.machine.kind(3)), "0");
            Talk.due("kind of t", Talk.told(() -> talk.machine.kind(0)), "3");
            Talk.due("kind of quote", Talk.told(() -> talk.machine.kind(2)), "0");
            talk.said("((fn(set)(set set 5))" + values[i] + ")", "2");
            Talk.due("a frame's value is not its own", Talk.told(() -> talk.machine.kind(3)), "0");
        }
    }

    /** "There is no such SYMBOL: IllegalArgumentException". */
    private static void numberOfNoSymbol() {
        for (int symbol : new int[] {-1, -2, 40, 41, 256, GREATEST, LEAST}) {
            refusedEverywhere("number " + symbol, machine -> machine.number(symbol), WRONG);
        }
        edgeOfSymbols((machine, symbol) -> machine.number(symbol), KIND);
    }

    /** "The VALUE of a SYMBOL, if it is a number; ...; another or none: UnsupportedOperationException." */
    private static void numberOfOthers() {
        String[][] values = {{"0", "0"}, {"-1", "-1"}, {"32767", "32767"}, {"-32768", "-32768"}, {"'t", "0"}, {"'it", "1"},
            {"'quote", "2"}, {"'a", "4"}, {"(vec 0 9)", "0"}, {"(vec 7 9)", "7"}, {"nil", KIND}, {"'(1)", KIND},
            {"(cons 1 2)", KIND}, {"(fn())", KIND}};
        for (String[] value : values) {
            Talk talk = new Talk(0);
            talk.say("(set a " + value[0] + ")");
            Talk.due("number of " + value[0], Talk.told(() -> talk.machine.number(4)), value[1]);
            talk.machine.collect();
            Talk.due("number of " + value[0], Talk.told(() -> talk.machine.number(1)), value[1]);
            if (value[1].equals(KIND)) {
                Twins twins = new Twins(0);
                twins.both("(set a " + value[0] + ")(do 'b");
                twins.onlyOne("number", machine -> machine.number(4), KIND);
                twins.onlyOne("number", machine -> machine.number(3), KIND);
                twins.alike("c)");
            }
        }
        Talk fresh = new Talk(0);
        Talk.due("number of t", Talk.told(() -> fresh.machine.number(0)), "0");
        Talk.due("number of it", Talk.told(() -> fresh.machine.number(1)), KIND);
        Talk.due("number of quote", Talk.told(() -> fresh.machine.number(2)), KIND);
        fresh.said("(set t 5)", "2");
        Talk.due("number of t", Talk.told(() -> fresh.machine.number(0)), "5");
    }

    /** "what 0 .. 10": else IllegalArgumentException. */
    private static void countOfNothing() {
        for (int what : new int[] {-1, 11, -2, 12, 256, 266, GREATEST, LEAST}) {
            refusedEverywhere("count " + what, machine -> machine.count(what), WRONG);
        }
        Talk talk = new Talk(0);
        for (int what = 0; what <= 10; what++) {
            talk.counts(what, what == 5 ? 3 : 0);
        }
    }

    /** "9 FORMS that came to a VALUE, 10 that did not (ILL-FORMED ones too)". */
    private static void countsOfForms() {
        String[] valued = {"()", "(do)", "(do nil)", "(quote a)", "(catch 1(throw 1 nil))", "(while nil)"};
        String[] failed = {"(if)", "(set 1 2)", "(car 5)", "(do nov)", "(throw 1 2)", "(/ 1 0)", "(ref(vec 0 0)0)",
            "(while 1)", "(5)", "(do(print 1)(car 5))"};
        String[] none = {" ", "a", "'", ")", "(')", "(do 99999)", "(do abcdef)", "((((((((((((("};
        Talk talk = new Talk(0);
        int values = 0;
        int faults = 0;
        for (String form : valued) {
            talk.say(form);
            values++;
            talk.counts(9, values);
            talk.counts(10, faults);
        }
        for (String form : failed) {
            talk.say(form);
            faults++;
            talk.counts(9, values);
            talk.counts(10, faults);
        }
        for (String text : none) {
            talk.say(text);
            talk.counts(9, values);
            talk.counts(10, faults);
        }
        talk.say("(do(car 5)");
        talk.machine.cancel();
        talk.counts(9, values);
        talk.counts(10, faults);
    }

    /** "An object is used for at most 512 calls": the 512th is one of them. */
    private static void lastCall() {
        Talk typing = called(503);
        typing.said("(set a 7)", "2");
        Talk.due("the 512th count", Talk.told(() -> called(511).machine.count(5)), "3");
        Talk.due("the 512th count", Talk.told(() -> called(511).machine.count(11)), WRONG);
        Talk.due("the 512th give", Talk.told(() -> called(511).machine.give(5)), "1");
        Talk.due("the 512th give", Talk.told(() -> called(511).machine.give(32768)), WRONG);
        Talk.due("the 512th take", Talk.told(() -> called(511).machine.take()), NONE);
        Talk.due("the 512th kind", Talk.told(() -> called(511).machine.kind(0)), "3");
        Talk.due("the 512th number", Talk.told(() -> called(511).machine.number(1)), KIND);
        Talk.due("the 512th type", Talk.told(() -> called(511).machine.type(')')), WRONG);
        Talk canceling = called(510);
        canceling.say("(");
        Talk.due("the 512th cancel", Talk.told(() -> canceling.machine.cancel()), "1");
        Talk collecting = called(501);
        collecting.said("(cons 1 2)", "4");
        Talk.due("the 512th collect", Talk.told(() -> collecting.machine.collect()), "2");
    }

    /** A machine that has had so many calls, refused ones among them. */
    private static Talk called(int calls) {
        Talk talk = new Talk(0);
        for (int i = 0; i < calls; i++) {
            boolean isEven = i % 2 == 0;
            Talk.told(() -> isEven ? talk.machine.take() : talk.machine.count(0));
        }
        return talk;
    }
}
