/** CALLS at their edges; each test bears the sentence of the document that it is for. */
public final class CallEdgesTest {
    private static final String WRONG = "IllegalArgumentException";
    private static final String KIND = "UnsupportedOperationException";
    private static final String NONE = "NoSuchElementException";
    private static final String STATE = "IllegalStateException";
    private static final String DOWN = "(set f(fn(n)(if(eq n 0)0(f(- n 1)))))";

    public static void main(String[] args) {
        numbersOfSymbols();
        allAreEvaluatedFirst();
        whatIsNoClosure();
        thirty();
        otherFaultsAtThirty();
        callsThatEnded();
        callsInParts();
        callsThatWereThrownOutOf();
        framesOfCalls();
        Talk.end();
    }

    /** "f is not a CLOSURE, or one with more or less SYMBOLS: UnsupportedOperationException". */
    private static void numbersOfSymbols() {
        String[] symbols = {"", "a", "a b", "a b c", "a b c d"};
        for (int has = 0; has <= 4; has++) {
            for (int gets = 0; gets <= 5; gets++) {
                Talk talk = new Talk(0);
                talk.said("(set f(fn(" + symbols[has] + ")(print 8)))", "6");
                talk.said("(f" + " 5".repeat(gets) + ")", gets > 4 ? WRONG : gets == has ? "2" : KIND);
                talk.counts(7, gets == has ? 2 : 0);
                talk.counts(0, gets == has ? 4 + gets : 2);
                talk.counts(4, gets == has ? 1 : 0);
            }
        }
    }

    /** "(f ..), at most 4 behind f; all are EVALUATED in their order." */
    private static void allAreEvaluatedFirst() {
        Talk talk = new Talk(127);
        talk.said("((do(print 0)(fn(a b c d)(print 5)))(print 1)(print 2)(print 3)(print 4))", "2");
        Talk.due("their order", talk.printed(), "0\n1\n2\n3\n4\n5\n");
        talk.said("(5(print 1)(print 2))((fn())(print 3))", KIND + " " + KIND);
        Talk.due("before f is looked at", talk.printed(), "1\n2\n3\n");
        talk.said("(5 nov)(nov(print 1))(5(/ 1 0))", NONE + " " + NONE + " ArithmeticException");
        talk.counts(7, 0);
    }

    private static void whatIsNoClosure() {
        for (String none : new String[] {"nil", "1", "'f", "'(fn())", "(cons 1 2)", "(vec 1 1)", "t"}) {
            Talk talk = new Talk(0);
            talk.said("(set f " + none + ")(f)(f 1)", new Talk(0).say("(do " + none + ")") + " " + KIND + " " + KIND);
            talk.counts(4, 0);
            talk.counts(3, 3);
            talk.counts(10, 2);
        }
    }

    /** "30 CALLS go on: IllegalStateException", "4 the most CALLS that went on at a time in it". */
    private static void thirty() {
        Talk talk = new Talk(127);
        talk.said(DOWN + "(f 29)", "6 2");
        talk.counts(4, 30);
        talk.counts(0, 2 + 30 * 3);
        talk.machine.collect();
        talk.said("(f 30)", STATE);
        talk.counts(4, 30);
        talk.counts(0, 2 + 30 * 3);
        talk.counts(9, 2);
        talk.counts(10, 1);
        talk.said("(f 28)", "2");
        talk.counts(4, 29);
        talk.said("(f 29)(f 0)", "2 2");
        talk.counts(4, 1);
        talk.said("(do 1)", "2");
        talk.counts(4, 0);
        talk.said("(f 3)(if)", "2 " + WRONG);
        talk.counts(4, 4);
        // what was done before the 31st stays
        Talk counting = new Talk(127);
        counting.said("(set n 0)(set f(fn()(set n(+ n 1))(f)))(f)(do n)", "2 6 " + STATE + " 2");
        Talk.due("calls", Talk.told(() -> counting.machine.number(1)), "30");
    }

    /** The kind of f and its SYMBOLS come before the 30 CALLS; no CALL, no limit. */
    private static void otherFaultsAtThirty() {
        String[][] last = {{"(5)", KIND}, {"(f)", KIND}, {"(f 1 2)", KIND}, {"(nov)", NONE}, {"(f nov)", NONE},
            {"(f(/ 1 0))", "ArithmeticException"}, {"(f 1)", STATE}, {"((fn()1))", STATE}, {"(fn()1)", "6"},
            {"(cons 1 2)", "4"}, {"(catch 1(throw 1 2))", "2"}};
        for (String[] at : last) {
            Talk talk = new Talk(127);
            talk.said("(set f(fn(n)(if(eq n 0)" + at[0] + "(f(- n 1)))))(f 29)", "6 " + at[1]);
            talk.counts(4, 30);
            Talk before = new Talk(127);
            before.said("(set f(fn(n)(if(eq n 0)((fn()1))(f(- n 1)))))(f 28)", "6 2");
            before.counts(4, 30);
        }
    }

    /** A CALL goes on until its body has ended. */
    private static void callsThatEnded() {
        Talk talk = new Talk(127);
        talk.said(DOWN + "(do(f 29)(f 29)(f 29))", "6 2");
        talk.counts(4, 30);
        talk.said("(do(f 3)(f 5)(f 1))", "2");
        talk.counts(4, 6);
        talk.said("(f 30)(f 29)", STATE + " 2");
        talk.said("((fn()(f 28)))((fn()(f 29)))", "2 " + STATE);
        talk.said("(list(f 29)(f 29))", "4");
    }

    /** What stands behind f is EVALUATED before its body, so its CALLS have ended then. */
    private static void callsInParts() {
        Talk talk = new Talk(127);
        talk.said(DOWN + "(f(f(f(f 0))))", "6 2");
        talk.counts(4, 1);
        talk.said("(f(f 29))", "2");
        talk.counts(4, 30);
        talk.said("(f(do(f 2)4))", "2");
        talk.counts(4, 5);
    }

    /** A throw ends the CALLS within its catch. */
    private static void callsThatWereThrownOutOf() {
        Talk talk = new Talk(127);
        talk.said("(set f(fn(n)(if(eq n 0)(throw 1 n)(f(- n 1)))))(do(catch 1(f 29))(catch 1(f 29)))", "6 2");
        talk.counts(4, 30);
        talk.said("(set g(fn(k)(catch 1(f k))(catch 1(f k))k))(g 28)", "6 2");
        talk.counts(4, 30);
        talk.said("(g 29)", STATE);
        talk.said("(g 5)", "2");
        Talk.due("its own frame again", Talk.told(() -> talk.machine.number(1)), "5");
        talk.counts(4, 7);
    }

    /** "A FRAME is made, in which the SYMBOLS have these VALUES, around it the FRAME of the CLOSURE". */
    private static void framesOfCalls() {
        Talk talk = new Talk(127);
        talk.prints("((fn(a b c d)(list d c b a))1 2 3 4)", "(4 3 2 1)");
        talk.said("(set m(fn(x)(fn(y)(set x(+ x y)))))(set p(m 10))(set q(m 20))", "6 6 6");
        talk.prints("(list(p 1)(p 1)(q 5)(p 1))", "(11 12 25 13)");
        talk.prints("((fn(x)(list(p 1)x(q 1)))0)", "(14 0 26)");
        talk = new Talk(127);
        talk.said("(set r(fn(n)(if(< n 1)nil(cons n(r(- n 1))))))", "6");
        talk.prints("(r 5)", "(5 4 3 2 1)");
        talk.prints("((fn(k)((fn(x)(set k(+ k x)))4)((fn(x)(set k(+ k x)))5)k)1)", "10");
    }
}
