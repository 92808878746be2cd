/** WORDS and COLLECTION: promises 2, 6 and 9 (counts 0, 1, 2). */
public final class WordsTest {
    private static final String STATE = "IllegalStateException";

    public static void main(String[] args) {
        wordsOfEach();
        collections();
        liveByReach();
        liveByWhatGoesOn();
        readCells();
        tooMuch();
        Talk.end();
    }

    private static void uses(String form, int want) {
        Talk talk = new Talk(127);
        talk.say(form);
        Talk.due("USED of " + form, Integer.toString(talk.machine.count(0)), Integer.toString(want));
    }

    private static void wordsOfEach() {
        uses("(cons 1 2)", 2);
        uses("(list)", 0);
        uses("(list 1 2 3)", 6);
        uses("(vec 0 1)", 1);
        uses("(vec 7 1)", 8);
        uses("(fn(a b)1)", 2);
        uses("((fn()1))", 4);
        uses("((fn(a b c d)1)1 2 3 4)", 8);
        uses("(quote(1 2 3))", 0);
        uses("(rca '(1) 2)", 0);
        uses("(+ 1 2)", 0);
        uses("(catch 1(throw 1 2))", 0);
    }

    private static void collected(String text, int want) {
        Talk talk = new Talk(127);
        talk.say(text);
        Talk.due("collect behind " + text, Integer.toString(talk.machine.collect()), Integer.toString(want));
        talk.counts(0, want);
        talk.counts(1, 1);
        talk.counts(2, want);
    }

    private static void collections() {
        Talk talk = new Talk(0);
        talk.say("(do(vec 7 0)(vec 7 0)(vec 7 0)(vec 7 0)(vec 7 0)0)");
        talk.counts(0, 40);
        talk.counts(1, 0);
        talk.say("(vec 0 0)");
        talk.counts(0, 1);
        talk.counts(1, 1);
        talk.counts(2, 0);
        talk.say("(vec 7 0)");
        Talk.due("collect", Integer.toString(talk.machine.collect()), "8");
        talk.counts(1, 2);
        talk.counts(2, 8);
    }

    private static void liveByReach() {
        collected("(cons 1 2)", 2);
        collected("(do(cons 1 2)3)", 0);
        collected("(set a(cons 1 2))(do 1)", 2);
        collected("(set a(cons(cons 1 2)(vec 2 nil)))(do 1)", 7);
        collected("(set a(cons 1 2))(set b(list a a a))(do 1)", 8);
        collected("(set a(cons 1 2))(rca a a)(rcd a a)(do 1)", 2);
        collected("(set a(vec 1 0))(put a 0(list 1 2))(do 1)", 6);
        collected("(set f((fn(x y)(fn()x))1(cons 2 3)))(do 1)", 8);
        collected("(set f((fn(x)((fn(y)(fn()y))2))(cons 2 3)))(do 1)", 10);
        collected("(set f(fn(x)(cons 1 x)))(f(cons 1 2))(do 1)", 2);
        collected("(set a(cons 1 2))(set a 1)", 0);
    }

    /** A machine of 40 words: so much is live when the form's last vec of 8 words makes a collection. */
    private static void live(String before, String form, int want) {
        Talk talk = new Talk(0);
        talk.say(before);
        talk.machine.collect();
        String answer = talk.say(form);
        Talk.due("collections in " + form, Integer.toString(talk.machine.count(1)), "2");
        Talk.due("live in " + form + " that answered " + answer, Integer.toString(talk.machine.count(2)),
                Integer.toString(want));
    }

    private static void liveByWhatGoesOn() {
        String fill = "(vec 7 0)(vec 7 0)(vec 7 0)(vec 7 0)";
        // parts of operators
        live("", "(list(cons 1 2)(do " + fill + "(vec 7 0)))", 2);
        live("", "(do(cons 1 2)" + fill + "(vec 7 0))", 0);
        live("", "(if(cons 1 2)(do " + fill + "(vec 7 0)))", 0);
        live("", "(catch(cons 1 2)" + fill + "(vec 7 0))", 2);
        live("", "(do(catch(cons 1 2))" + fill + "(vec 7 0))", 0);
        live("", "(catch 1(throw(do(cons 1 2)1)(do " + fill + "(vec 7 0)0)))", 0);
        live("", "(catch 1(throw(cons 1 2)(do " + fill + "(vec 7 0))))", 2);
        live("", "(put(vec 1 0)0(do " + fill + "(vec 6 0)))", 2);
        // while something is made for them
        live("", "(do " + fill + "(vec 3 0)(vec 7(cons 1 2)))", 2);
        live("", "(do " + fill + "(vec 5 0)(cons(cons 1 2)3))", 2);
        // calls: the closure and the values of its parts live until the body begins
        live("(set n 0)", "((fn(x)" + fill + "(vec 7 0))1)", 3);
        live("(set n 0)", "((fn(x)(set x 1)" + fill + "(vec 7 0))(cons 1 2))", 3);
        live("(set n 0)", "((fn(x)" + fill + "(vec 7 0))(cons 1 2))", 5);
        live("(set n 0)", "((do " + fill + "(vec 2 0)(fn(x)x))(cons 1(vec 0 0)))", 5);
        // frames of all calls that go on, also of those that are not around
        live("(set g(fn()" + fill + "(vec 7 0)))", "((fn(x)(g))(cons 1 2))", 2 + 2 + 5);
        // what was thrown away with a call
        live("(set g(fn(x)(throw 1 2)))", "(do(catch 1(list(cons 1 2)(g(cons 3 4))))" + "(vec 7 0)(vec 7 0)(vec 7 0)(vec 7 0))", 2);
        // while and set keep nothing of their own
        live("(set n 3)", "(while(< 0 n)(set n(- n 1))(vec 7 0)(vec 7 0)(vec 3 0))", 0);
    }

    private static void readCells() {
        collected("(set f(fn()'(1 2)))(rca(f)(cons 1 2))(do 1)", 4);
        collected("(rca '(1)(cons 1 2))(do 1)", 2);
        collected("(rcd '(1)(vec 2 2))(do 1)", 3);
        collected("(set f(fn()'(1 2)))(rca(f)(cons 1 2))(rca(f)1)(do 1)", 2);
        collected("(rca(cdr '(1 2))(cons 1 2))(do(rcd '(8)(list 1 2))1)", 6);
        Talk talk = new Talk(0);
        talk.say("(set a '(1 2))(rcd a(cons 5 6))(set n 9)");
        talk.say("(while(< 0 n)(set n(- n 1))(vec 7 0))");
        talk.prints("a", "(1 5 . 6)");
        talk.say("(set a 0)");
        Talk.due("all cells that were read are live", Integer.toString(talk.machine.collect()), "2");
    }

    private static void tooMuch() {
        Talk talk = new Talk(0);
        talk.said("(set a(vec 7 0))(set b(vec 7 0))(set c(vec 7 0))(set d(vec 7 0))(set e(vec 6 0))", "5 5 5 5 5");
        talk.counts(0, 39);
        talk.said("(cons 1 2)", STATE);
        talk.counts(0, 39);
        talk.counts(1, 1);
        talk.counts(2, 39);
        talk.said("(vec 0 0)", "5");
        talk.counts(0, 40);
        talk.said("(list)", "1");
        talk.counts(1, 1);
        talk.said("(fn())", STATE);
        talk.said("(do(set a nil)(list 1 2 3 4))", "4");
        talk.counts(0, 39);
        talk.said("(list 1 2 3 4)", STATE);
        talk.said("(do(set it nil)(list 1 2 3 4))", "4");
        talk.prints("it", "(1 2 3 4)");
        talk.said("(print(list b))", STATE);
        Talk.due("nothing is printed", talk.printed(), "");
    }
}
