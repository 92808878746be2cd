import java.lang.reflect.Method;
import java.util.Arrays;
import java.util.TreeSet;

/**
 * The document from its first line to its last, with plain examples for its clauses, which are told beside them.
 * Where a clause names a boundary, an EdgesTest has both sides of it.
 */
public final class DocumentTest {
    private static final String WRONG = "IllegalArgumentException";
    private static final String KIND = "UnsupportedOperationException";
    private static final String NONE = "NoSuchElementException";
    private static final String STATE = "IllegalStateException";
    private static final String SUM = "ArithmeticException";
    private static final String INDEX = "IndexOutOfBoundsException";
    private static final String FORTY_WORDS = "(vec 7 0)".repeat(5);

    public static void main(String[] args) {
        whatItIs();
        publicFace();
        values();
        reading();
        unreadable();
        running();
        specialForms();
        operators();
        numberOperators();
        vectorsAndInput();
        calls();
        words();
        reached();
        rootsOfRuns();
        printing();
        whatIsThrown();
        callsOfTheFace();
        counts();
        Talk.end();
    }

    /** What is typed on a new machine answers so; behind a colon what it has printed, a / for each end of a line. */
    private static void holds(String clause, String typed, String want) {
        Talk talk = new Talk(127);
        String answers = talk.say(typed);
        String printed = talk.printed().replace('\n', '/');
        Talk.due(clause + " | " + typed, printed.isEmpty() ? answers : answers + ": " + printed, want);
    }

    /** Behind what is typed on a new machine of that size, a count is so. */
    private static void leaves(String clause, int size, String typed, int what, int want) {
        Talk talk = new Talk(size);
        talk.say(typed);
        Talk.due(clause + " | count(" + what + ") behind " + typed, Talk.told(() -> talk.machine.count(what)),
            Integer.toString(want));
    }

    private static void used(String clause, String typed, int want) {
        leaves(clause, 127, typed, 0, want);
    }

    /** Behind what is typed on a new machine, a collection leaves so many words. */
    private static void live(String clause, String typed, int want) {
        Talk talk = new Talk(127);
        talk.say(typed);
        Talk.due(clause + " | collect() behind " + typed, Talk.told(() -> talk.machine.collect()),
            Integer.toString(want));
    }

    /** What is typed fills 40 words, so that there is a collection within it, which leaves so many. */
    private static void liveWithin(String clause, String typed, int want) {
        leaves(clause, 0, typed, 1, 1);
        leaves(clause, 0, typed, 2, want);
    }

    private static void whatItIs() {
        holds("characters are read as forms, compiled, and run", "(print(+ 1 2))", "2: 3/");
        Talk talk = new Talk(0);
        talk.said(" ".repeat(510) + "()", "1");
    }

    /** Each method with what it says to throw; LanguageTest sees that there is nothing beside them. */
    private static void publicFace() {
        TreeSet<String> face = new TreeSet<>();
        for (Method method : TagMachine.class.getMethods()) {
            if (method.getDeclaringClass() == TagMachine.class) {
                StringBuilder told = new StringBuilder(method.getName());
                Arrays.stream(method.getExceptionTypes()).forEach(one -> told.append(' ').append(one.getSimpleName()));
                face.add(told.toString());
            }
        }
        String[] want = {"cancel", "collect", "count " + WRONG, "give " + WRONG + " " + KIND, "kind " + WRONG,
            "number " + WRONG + " " + KIND, "take " + NONE,
            "type " + String.join(" ", WRONG, STATE, NONE, KIND, SUM, INDEX)};
        Talk.due("The public face", String.join("; ", face), String.join("; ", want));
    }

    private static void values() {
        holds("VALUES are NIL; numbers -32768 .. 32767; SYMBOLS", "(do nil)(do -32768)(do 32767)(do t)", "1 2 2 3");
        holds("CELLS of two VALUES (CAR, CDR)", "(print(cons(cons 1 2)t))", "4: ((1 . 2) . t)/");
        holds("VECTORS of 0 .. 7 VALUES; CLOSURES", "(vec 0 t)(vec 7 t)(fn())", "5 5 6");
        holds("Two are the same if they are NIL, the same number or SYMBOL", "(eq nil())(eq 7 07)(eq'a'a)", "3 3 3");
        holds("a CELL, VECTOR or CLOSURE that was made once", "(set a(cons 1 2))(eq a a)(eq a(cons 1 2))", "4 3 1");
        holds("NIL is false, all others are true", "(list(if nil 1 2)(if 0 1 2))(print it)", "4 4: (2 1)/");
        Talk talk = new Talk(0);
        talk.said("(do'b)", "3");
        Talk.due("numbered as they are first read", Talk.told(() -> talk.machine.number(1)), "4");
        Talk.due("each has a VALUE or none", Talk.told(() -> talk.machine.kind(4)), "0");
        Talk.due("that of t is t at first", Talk.told(() -> talk.machine.number(0)), "0");
        talk.counts(5, 5);
    }

    private static void reading() {
        holds("( ) ' a space, 10 (as a space)", "(print'(a\nb c))", "4: (a b c)/");
        holds("a .. z, 0 .. 9, + - * / and the less-than sign", "(print'(az 09 +-*/<))", "4: (az 9 +-*/<)/");
        holds("An ATOM goes on up to the next character", "(print'(a'b(c)d))", "4: (a (quote b) (c) d)/");
        holds("Digits, also behind one -: a number", "(print'(12 -12 --1 1- -))", "4: (12 -12 --1 1- -)/");
        holds("Digits, also behind one -: a number", "(+ 12 -12)(+ 1 --1)", "2 " + NONE);
        holds("nil: NIL; else a SYMBOL", "(do nil)(do 'nill)", "1 3");
        holds("a chain of CELLS by their CDRS, at the end NIL", "(print(cdr(cdr'(1 2))))", "1: nil/");
        holds("() is NIL", "()(eq()nil)", "1 3");
        holds("' x is the list (quote x)", "(print(car''x))", "3: quote/");
        holds("Outside of all parentheses ATOMS and ' are passed over", "abcdefg 99999 '(do 1)", "2");
        holds("When a list that stands outside closes, it is a FORM", "(do(do 1)(do 2))", "2");
    }

    private static void unreadable() {
        holds("a number out of range", "(do 32768)(do -32769)(do 32767)", WRONG + " " + WRONG + " 2");
        holds("a SYMBOL of more than 5 characters", "(do'abcdef)(do'abcde)", WRONG + " 3");
        holds("a 41st SYMBOL",
            "(do'(a b c d e f g h i j k l m n o p q r s u v w x y z))"
                + "(do'(aa ab ac ad ae af ag ah ai aj ak))(do'al)(do'ak)",
            "4 4 " + WRONG + " 3");
        holds("more than 12 ( and ' open at a time", "('''''''''''a)(''''''''''''", KIND + " " + WRONG);
        holds("a ) outside, or just behind a '", ")(do')", WRONG + " " + WRONG);
        holds("this character too, is dropped, and READING goes on outside", "(do(do')1(do 2)", WRONG + " 2");
        leaves("SYMBOLS stay", 0, "(do a')", 5, 5);
    }

    private static void running() {
        holds("if something in it is ILL-FORMED: IllegalArgumentException, nothing is done",
            "(do(print 1)(if))", WRONG);
        holds("its VALUE becomes that of it", "(+ 1 2)(print it)", "2 2: 3/");
        leaves("Each EVALUATION is a STEP", 0, "(if(eq 1 2)3(do 4 5))", 3, 7);
        holds("the 1001st in a FORM: IllegalStateException", "(while t)", STATE);
        holds("A number, NIL: itself", "(print(list 5 nil))", "4: (5 nil)/");
        holds("its VALUE in the innermost FRAME around that has it", "(set a 1)(print((fn(a)a)2))", "2 2: 2/");
        holds("else its own", "(set a 1)(print((fn(b)a)2))", "2 2: 1/");
        holds("without one: NoSuchElementException", "(do a)", NONE);
        holds("they mean so there alone, whatever their VALUES",
            "(set car 5)(print(list car(car'(1))))", "2 4: (5 1)/");
        holds("parts EVALUATED in their order", "(list(print 1)(print 2)(print 3))", "4: 1/2/3/");
    }

    private static void specialForms() {
        holds("(quote x): x", "(print(quote(a 1)))", "4: (a 1)/");
        holds("(if c x y), (if c x): x if c is true", "(print(if t 1 2))(print(if t 1))", "2 2: 1/1/");
        holds("else y, or NIL", "(print(if nil 1 2))(print(if nil 1))", "2 1: 2/nil/");
        holds("(do ..): all; the VALUE of the last, NIL for none", "(print(do(print 1)2))(do)", "2 1: 1/2/");
        holds("where its VALUE would be looked for", "(print((fn(a)(set a 2)a)1))(do a)", "2 " + NONE + ": 2/");
        holds("(else its own) it becomes that of x", "((fn(a)(set b 3))1)(print b)", "2 2: 3/");
        holds("as long as c is true, the others; NIL", "(set a 2)(while(< 0 a)(print a)(set a(- a 1)))", "2 1: 2/1/");
        holds("of a body as do has", "(print((fn(a)(print 1)a)2))(print((fn())))", "2 1: 1/2/nil/");
        holds("and of the FRAME here", "(set f((fn(a)(fn(b)(+ a b)))3))(print(f 4))", "6 2: 7/");
        holds("(catch x ..): x is the TAG, then as do", "(print(catch 1(print 2)3))(catch 1)", "2 1: 2/3/");
        holds("the innermost catch going on whose TAG is the same as x is y",
            "(print(catch 1(list(catch 1(catch 2(throw 1 5))))))", "4: (5)/");
        holds("there is none: NoSuchElementException", "(catch 1(throw 2 3))", NONE);
    }

    private static void operators() {
        holds("(car a), (cdr a): of NIL: NIL", "(car'(5))(cdr'(5))(car nil)(cdr nil)", "2 1 1 1");
        holds("(cons a b)", "(print(cons 1 2))", "4: (1 . 2)/");
        holds("(rca a b), (rcd a b): CAR, CDR of a becomes b; a",
            "(set a(cons 1 2))(print(rca a 3))(print(rcd a 4))(eq a it)",
            "4 4 4 3: (3 . 2)/(3 . 4)/");
        holds("(list ..): at most 4", "(print(list 1 2 3 4))(list 1 2 3 4 5)", "4 " + WRONG + ": (1 2 3 4)/");
        holds("(atom a): the SYMBOL t, or NIL for a CELL", "(atom 1)(atom(vec 1 1))(atom'(1))", "3 3 1");
        holds("(eq a b): they are the same: t, else NIL", "(print(list(eq 1 1)(eq 1 2)))", "4: (t nil)/");
    }

    private static void numberOperators() {
        holds("(+ a b) (- a b) (* a b)", "(print(list(+ 7 -2)(- 7 -2)(* 7 -2)))", "4: (5 9 -14)/");
        holds("(/ a b), cut towards 0", "(print(list(/ 7 2)(/ -7 2)(/ 7 -2)(/ -7 -2)))", "4: (3 -3 -3 3)/");
        holds("out of range, or b is 0: ArithmeticException",
            "(+ 32767 1)(* 256 128)(/ 1 0)", SUM + " " + SUM + " " + SUM);
        holds("(< a b), numbers, as that sign says: t or NIL",
            "(print(list(< 1 2)(< 2 2)(< -1 -2)))", "4: (t nil nil)/");
        holds("(and a b) (or a b) (xor a b), bit by bit",
            "(print(list(and 12 10)(or 12 10)(xor 12 -1)))", "4: (8 14 -13)/");
        holds("go n to the left, or -n to the right", "(print(list(sh 3 2)(sh 12 -2)(sh 5 0)))", "4: (12 3 5)/");
        holds("others are 0; these 16 bits as a number again", "(print(list(sh -1 -8)(sh 1 15)(sh 3 15)))",
            "4: (255 -32768 -32768)/");
    }

    private static void vectorsAndInput() {
        holds("(vec n x): n 0 .. 7, a VECTOR of n times x", "(print(vec 3'a))(vec 8 1)(vec -1 1)",
            "5 " + KIND + " " + KIND + ": [a a a]/");
        holds("(ref v i), (put v i x), x", "(set v(vec 2 0))(print(put v 1 5))(print(ref v 1))(print v)",
            "5 2 2 5: 5/5/[0 5]/");
        holds("i is not an index, from 0", "(ref(vec 2 0)2)(put(vec 2 0)-1 1)", INDEX + " " + INDEX);
        holds("(len v)", "(print(len(vec 4 0)))", "2: 4/");
        holds("(print a): prints; a", "(print(print 6))", "2: 6/6/");
        Talk talk = new Talk(0);
        talk.machine.give(3);
        talk.machine.give(-4);
        talk.said("(print(list(get)(get)(get)))", "4");
        Talk.due("the oldest number of the INPUT is taken out", talk.printed(), "(3 -4 nil)\n");
        holds("A VALUE of another kind than needed, n not as said", "(car 1)(+ t 1)(len nil)(sh 1 16)",
            KIND + " " + KIND + " " + KIND + " " + KIND);
        holds("when all parts are EVALUATED", "(+ nil(print 1))", KIND + ": 1/");
    }

    private static void calls() {
        holds("all are EVALUATED in their order", "((do(print 0)(fn(a b)9))(print 1)(print 2))", "2: 0/1/2/");
        holds("f is not a CLOSURE, or one with more or less SYMBOLS", "(1 2)((fn(a)a))((fn(a)a)1 2)",
            KIND + " " + KIND + " " + KIND);
        holds("30 CALLS go on: IllegalStateException", "(set f(fn(n)(if(eq n 0)0(f(- n 1)))))(f 29)(f 30)",
            "6 2 " + STATE);
        holds("around it the FRAME of the CLOSURE", "(set a 1)(set f(fn()a))(print((fn(a)(f))2))", "2 6 2: 1/");
        holds("more or fewer parts than said",
            "(if t)(if 1 2 3 4)(get 1)(set a)", WRONG + " " + WRONG + " " + WRONG + " " + WRONG);
        holds("do, while, catch: none needed behind do, c, x", "(do)(while nil)(catch 1)", "1 1 1");
        holds("a CALL of more than 4", "(a 1 2 3 4 5)(a 1 2 3 4)", WRONG + " " + NONE);
        holds("s or p not as said",
            "(set 1 2)(fn(a a)1)(fn(1)1)(fn a)", WRONG + " " + WRONG + " " + WRONG + " " + WRONG);
    }

    private static void words() {
        used("A CELL made by an operator has 2", "(cons 1 2)", 2);
        used("a VECTOR 1 and one more for each VALUE", "(vec 0 1)(vec 7 1)", 9);
        used("a CLOSURE 2", "(fn(a b c d)(list a b c d))", 2);
        used("a FRAME 2 and one more for each SYMBOL", "((fn(a b c))1 2 3)", 7);
        used("list 2 for each CELL", "(list)(list 1 2 3 4)", 8);
        leaves("all at once", 0, "(set a(vec 7 0))" + "(vec 7 0)".repeat(3) + "(cons 1 2)(list 1 2 3 4)", 2, 10);
        used("CELLS that were read none", "(do'(1 2 3))", 0);
        leaves("USED + n is above SIZE: COLLECTION", 0, FORTY_WORDS, 1, 0);
        leaves("USED + n is above SIZE: COLLECTION", 0, FORTY_WORDS + "(vec 0 0)", 1, 1);
        leaves("USED is the WORDS of all that is LIVE", 0, FORTY_WORDS + "(vec 0 0)", 2, 8);
        leaves("Then USED is n more", 0, FORTY_WORDS + "(vec 0 0)", 0, 9);
        Talk talk = new Talk(0);
        talk.said("(do(set a nil)(while t(set a(cons a a))))", STATE);
        talk.counts(0, 40);
    }

    private static void reached() {
        live("by CARS", "(set a(cons(cons 1 2)3))(do 1)", 4);
        live("CDRS", "(set a(cons 1(cons 2 3)))(do 1)", 4);
        live("VALUES in VECTORS", "(set a(vec 1(cons 1 2)))(do 1)", 4);
        live("and FRAMES", "(set a((fn(x)(fn()1))(cons 1 2)))(do 1)", 7);
        live("FRAMES of CLOSURES", "(set a((fn(x)(fn()1))1))(do 1)", 5);
        live("FRAMES around FRAMES", "(set a((fn(x)((fn(y)(fn()1))2))1))(do 1)", 8);
        live("from the VALUES of SYMBOLS", "(set a(cons 1 2))(cons 3 4)", 4);
        live("from the VALUES of SYMBOLS", "(set a(cons 1 2))(cons 3 4)(set a 1)", 0);
        live("all CELLS that were read", "(do(rca'(1)(cons 1 2))1)", 2);
    }

    private static void rootsOfRuns() {
        liveWithin("the FRAMES of CALLS that go on", "((fn(x)" + FORTY_WORDS + ")1)", 3);
        liveWithin("TAGS of a catch that goes on", "(catch(cons 1 2)" + FORTY_WORDS + ")", 2);
        liveWithin("parts of operators", "(list(cons 1 2)(do " + FORTY_WORDS + "))", 2);
        liveWithin("throws", "(throw(cons 1 2)(do " + FORTY_WORDS + "))", 2);
        liveWithin("and CALLS that go on and were EVALUATED", "((fn(x y)1)(cons 1 2)(do " + FORTY_WORDS + "))", 4);
        liveWithin("no more when the body of a CALL is EVALUATED", "((fn()" + FORTY_WORDS + "))", 2);
        liveWithin("still when something is made for them",
            "(cons(cons 1 2)(do(vec 5 0)" + "(vec 7 0)".repeat(4) + "nil))", 2);
        liveWithin("what is no part of them is not LIVE", "(do(if(cons 1 2)(do " + FORTY_WORDS + ")))", 0);
    }

    private static void printing() {
        holds("numbers and names as they are read, NIL as nil", "(print -7)(print'<a)(print())", "2 3 1: -7/<a/nil/");
        holds("the VALUES as a list does, one space between", "(print'(1  (2 a)\n()))", "4: (1 (2 a) nil)/");
        holds("if a last CDR is not NIL: space . space and that", "(print(cons 1(cons 2 t)))", "4: (1 2 . t)/");
        holds("a VECTOR the same with [ and ] and no points",
            "(print(vec 2'(1)))(print(vec 0 1))", "5 5: [(1) (1)]/[]/");
        holds("a CLOSURE #", "(print(list(fn()1)))", "4: (#)/");
        holds("A CELL or VECTOR within 8 others is just *", "(print(list(list(list(list(list(list '((((1))))1)))))))",
            "4: ((((((((*)) 1))))))/");
        holds("Behind all: 10", "(print nil)", "1: nil/");
        leaves("OUTPUT keeps 200 characters: printing ends when it is full", 0,
            "(set a'(1 2))(rcd a a)(print a)", 7, 200);
    }

    private static void whatIsThrown() {
        holds("in this order: IllegalArgumentException, then as it comes", "(do(car 1)(if))(do(car 1)(/ 1 0))",
            WRONG + " " + KIND);
        holds("What was done before in the FORM stays",
            "(do(set a 1)(print 2)(car 1)(set a 3))(print a)", KIND + " 2: 2/1/");
        holds("nothing goes on then", "(list(car 1)(print 1))(throw 1 1)", KIND + " " + NONE);
        Talk talk = new Talk(0);
        for (int i = 1; i <= 8; i++) {
            talk.machine.give(i);
        }
        Talk.due("the one named first is thrown", Talk.told(() -> talk.machine.give(32768)), WRONG);
        Talk.due("it changes nothing", Talk.told(() -> talk.machine.count(8)), "8");
    }

    private static void callsOfTheFace() {
        Talk talk = new Talk(0);
        holds("Answers 0 if nothing was RUN, else the KIND of the VALUE", "()(do 1)(do t)'(do '(1))(vec 1 1)(fn())",
            "1 2 3 4 5 6");
        holds("A character of those said, else IllegalArgumentException (nothing is done)",
            "(print 1A2)", WRONG + " 2: 12/");
        talk.said("(a('", "");
        Talk.due("Answers how many ( and ' were open", Talk.told(() -> talk.machine.cancel()), "3");
        Talk.due("What was read of a FORM is dropped", talk.say("(do 1)"), "2");
        talk.said("(print 5)", "2");
        Talk.due("The oldest character of the OUTPUT is taken out", Talk.told(() -> talk.machine.take()), "53");
        Talk.due("The oldest character of the OUTPUT is taken out", Talk.told(() -> talk.machine.take()), "10");
        Talk.due("None: NoSuchElementException", Talk.told(() -> talk.machine.take()), NONE);
        Talk.due("Answers how many it has", Talk.told(() -> talk.machine.give(-32768)), "1");
        Talk.due("number -32768 .. 32767 comes to the INPUT", Talk.told(() -> talk.machine.give(32768)), WRONG);
        talk.said("(cons 1 2)(set x(vec 3 1))(do 1)", "4 5 2");
        Talk.due("A COLLECTION. Answers USED", Talk.told(() -> talk.machine.collect()), "4");
        int x = talk.machine.count(5) - 2;
        Talk.due("The KIND of the VALUE of a SYMBOL", Talk.told(() -> talk.machine.kind(x)), "5");
        Talk.due("0 without one", Talk.told(() -> talk.machine.kind(2)), "0");
        Talk.due("There is no such SYMBOL", Talk.told(() -> talk.machine.kind(x + 2)), WRONG);
        Talk.due("The VALUE of a SYMBOL, if it is a number", Talk.told(() -> talk.machine.number(1)), "1");
        Talk.due("the number of a SYMBOL that it is", Talk.told(() -> talk.machine.number(0)), "0");
        Talk.due("the length of a VECTOR", Talk.told(() -> talk.machine.number(x)), "3");
        Talk.due("There is no such SYMBOL", Talk.told(() -> talk.machine.number(-1)), WRONG);
        Talk.due("another or none", Talk.told(() -> talk.machine.number(2)), KIND);
    }

    private static void counts() {
        Talk talk = new Talk(0);
        talk.machine.give(1);
        talk.said("(cons 1 2)(car 1)(if)(do 3)", "4 " + KIND + " " + WRONG + " 2");
        talk.machine.collect();
        talk.said("(print((fn(a)((fn(b)(+ a b))2))1))((", "2");
        int[] want = {10, 1, 0, 10, 2, 12, 2, 2, 1, 3, 2};
        for (int what = 0; what < want.length; what++) {
            talk.counts(what, want[what]);
        }
        talk.machine.collect();
        talk.counts(1, 2);
        Talk.due("what 0 .. 10", Talk.told(() -> talk.machine.count(11)), WRONG);
        Talk.due("what 0 .. 10", Talk.told(() -> talk.machine.count(-1)), WRONG);
    }
}
