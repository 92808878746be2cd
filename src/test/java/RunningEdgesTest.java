/** RUNNING at its edges; each test bears the sentence of the document that it is for. */
public final class RunningEdgesTest {
    private static final String WRONG = "IllegalArgumentException";
    private static final String KIND = "UnsupportedOperationException";
    private static final String NONE = "NoSuchElementException";
    private static final String STATE = "IllegalStateException";
    private static final int MANY = 99;

    public static void main(String[] args) {
        partsOfEach();
        illFormedAnywhere();
        illFormedQuoted();
        whatIsSet();
        symbolsOfClosures();
        illFormedComesFirst();
        theThousandth();
        theThousandAndFirst();
        stepsOfEachForm();
        symbolsWithoutValues();
        whereValuesAre();
        whatIsTrue();
        noParts();
        namesOfOperators();
        throwsWithoutCatch();
        theInnermostCatch();
        theValueOfIt();
        whatStays();
        twelveDeep();
        Talk.end();
    }

    private static String withParts(String name, int parts) {
        StringBuilder form = new StringBuilder("(" + name);
        for (int i = 0; i < parts; i++) {
            form.append(i == 0 && name.equals("set") ? " s" : " nil");
        }
        return form.append(")").toString();
    }

    /** "more or fewer parts than said (do, while, catch: none needed behind do, c, x); a CALL of more than 4". */
    private static void partsOfEach() {
        String[] names = {"quote", "if", "do", "set", "while", "fn", "catch", "throw", "car", "cdr", "cons", "rca",
            "rcd", "list", "atom", "eq", "+", "-", "*", "/", "<", "and", "or", "xor", "sh", "vec", "ref", "put",
            "len", "print", "get", "f", "1", "nil", "(fn())", "t", "gets", "ge"};
        int[] fewest = {1, 2, 0, 2, 1, 1, 1, 2, 1, 1, 2, 2, 2, 0, 1, 2, 2, 2, 2, 2, 2, 2, 2, 2, 2, 2, 2, 3, 1, 1, 0,
            0, 0, 0, 0, 0, 0, 0};
        int[] most = {1, 3, MANY, 2, MANY, MANY, MANY, 2, 1, 1, 2, 2, 2, 4, 1, 2, 2, 2, 2, 2, 2, 2, 2, 2, 2, 2, 2, 3,
            1, 1, 0, 4, 4, 4, 4, 4, 4, 4};
        for (int i = 0; i < names.length; i++) {
            for (int parts = 0; parts <= 7; parts++) {
                String form = withParts(names[i], parts);
                if (parts < fewest[i] || parts > most[i]) {
                    illFormed(form);
                } else {
                    wellFormed(form);
                }
            }
        }
        wellFormed("(do" + " 1".repeat(200) + ")");
        wellFormed("(while nil" + " 1".repeat(200) + ")");
        wellFormed("(fn()" + " 1".repeat(200) + ")");
        wellFormed("(catch 1" + " 1".repeat(200) + ")");
    }

    private static void wellFormed(String form) {
        Talk talk = new Talk(0);
        String answer = talk.say(form);
        Talk.due(form + " is well-formed", Boolean.toString(answer.equals(WRONG)), "false");
        Talk.due("steps of " + form, Boolean.toString(talk.machine.count(3) > 0), "true");
    }

    /** "IllegalArgumentException, nothing is done": all but the symbols and count 10 is as it was. */
    private static void illFormed(String form) {
        Talk talk = new Talk(0);
        talk.machine.give(5);
        talk.said("((fn(x)(print 7)(cons 1 2)8)1)(set z 4)", "2 2");
        talk.machine.collect();
        String before = seen(talk);
        talk.said(form, WRONG);
        Talk.due("behind " + form, seen(talk), before);
        talk.counts(10, 1);
        talk.said("(do(set z 1)(print 1)(get)(rca(cons 1 2)3)" + form + ")", WRONG);
        Talk.due("behind " + form + " in do", seen(talk), before);
        talk.counts(10, 2);
        talk.said("(do z)", "2");
        Talk.due("z behind " + form, Talk.told(() -> talk.machine.number(1)), "4");
    }

    private static String seen(Talk talk) {
        StringBuilder all = new StringBuilder();
        for (int what : new int[] {0, 1, 2, 3, 4, 6, 7, 8, 9}) {
            all.append(talk.machine.count(what)).append(' ');
        }
        return all.append(talk.machine.kind(1)).append(' ').append(talk.machine.number(1)).toString();
    }

    /** "First the FORM is looked through; if something in it is ILL-FORMED: IllegalArgumentException, nothing is done." */
    private static void illFormedAnywhere() {
        String[] places = {"X", "(do X)", "(do(print 1)X 1)", "(if nil X)", "(if 1 2 X)", "(if X 1)", "(while nil X)",
            "(while X)", "(fn()X)", "(fn(a)1 X 2)", "(catch X)", "(catch 1 X)", "(throw X 1)", "(throw 1 X)",
            "(set z X)", "(X)", "(X 1)", "(nof 1 X)", "(1 2 3 4 X)", "(list 1 2 3 X)", "(car X)", "(+ X nil)",
            "(put 1 2 X)", "(print X)", "((fn(a)((fn(b)X)1))1)", "(do(do(do(do(do(do(do(do(do X)))))))))"};
        for (String place : places) {
            for (String form : new String[] {"(if)", "(list 1 2 3 4 5)", "(a 1 2 3 4 5)", "(set 1 2)", "(fn(a a))"}) {
                illFormed(place.replace("X", form));
            }
        }
    }

    /** What is quoted is no part that is EVALUATED, so nothing in it is ILL-FORMED. */
    private static void illFormedQuoted() {
        for (String form : new String[] {"(if)", "(quote)", "(quote 1 2)", "(a 1 2 3 4 5)", "(set 1 2)", "(fn(a a))"}) {
            Talk talk = new Talk(0);
            talk.said("(quote " + form + ")(do '" + form + ")(do '(1 " + form + "))", "4 4 4");
        }
    }

    /** "(set s x): s is a SYMBOL", "ILL-FORMED: ... s or p not as said". */
    private static void whatIsSet() {
        for (String none : new String[] {"1", "nil", "()", "(a)", "'a", "(do a)", "-1"}) {
            illFormed("(set " + none + " 1)");
        }
        for (String symbol : new String[] {"a", "t", "it", "quote", "car", "set", "-", "nill", "1-"}) {
            Talk talk = new Talk(0);
            talk.said("(set " + symbol + " 6)", "2");
            talk.prints("(list " + symbol + ")", "(6)");
        }
    }

    /** "(fn (p ..) ..): a CLOSURE of at most 4 different SYMBOLS p". */
    private static void symbolsOfClosures() {
        for (String good : new String[] {"()", "nil", "(a)", "(a b)", "(a b c)", "(a b c d)", "(t it quote car)", "'a"}) {
            Talk talk = new Talk(0);
            talk.said("(fn " + good + ")(fn " + good + " 1 2)", "6 6");
        }
        String[] wrong = {"(a b c d e)", "(a b c d e f)", "a", "t", "1", "(1)", "(nil)", "(())", "((a))", "(a 1)",
            "(a b c 1)", "(a b c nil)", "(a a)", "(a b a)", "(a b b)", "(a b c a)", "(a b c b)", "(a b c c)", "('a)",
            "'1", "'quote"};
        for (String list : wrong) {
            illFormed("(fn " + list + ")");
            illFormed("(fn " + list + " 1)");
        }
    }

    /** "What is thrown, in this order: IllegalArgumentException, then as it comes." */
    private static void illFormedComesFirst() {
        for (String fails : new String[] {"(car 5)", "nov", "(throw 1 2)", "(/ 1 0)", "(ref(vec 0 0)0)", "(while 1)"}) {
            illFormed("(do " + fails + "(if))");
            illFormed("(list " + fails + "(set 1 2))");
        }
        Talk talk = new Talk(0);
        talk.said("(do(/ 1 0)(car 5))(do(car 5)(/ 1 0))", "ArithmeticException " + KIND);
        talk.said("(list nov(car 5))(list(car 5)nov)", NONE + " " + KIND);
    }

    /** On a machine whose n is 142 this takes 999 steps before it comes to the rest. */
    private static String looping(String rest) {
        return "(do(while(< 0 n)(set n(- n 1)))" + rest + ")";
    }

    private static Talk loopingMachine() {
        Talk talk = new Talk(100);
        talk.machine.give(5);
        talk.said("(set f(fn()1))(set n 142)", "6 2");
        return talk;
    }

    /** "Each EVALUATION is a STEP, counted as it begins": the 1000th one is done. */
    private static void theThousandth() {
        String[][] last = {{"5", "2"}, {" nil", "1"}, {"()", "1"}, {" t", "3"}, {"'a", "3"}, {"'(1 2)", "4"},
            {"(fn()1)", "6"}, {"(do)", "1"}, {"(list)", "1"}, {"(get)", "2"}, {" nov", NONE}};
        for (String[] step : last) {
            Talk talk = loopingMachine();
            talk.said(looping(step[0]), step[1]);
            talk.counts(3, 1000);
        }
        Talk talk = loopingMachine();
        talk.said(looping(""), "1");
        talk.counts(3, 999);
    }

    /** "the 1001st in a FORM: IllegalStateException", "3 STEPS of the latest FORM EVALUATED (1000 at most)". */
    private static void theThousandAndFirst() {
        String[] last = {"1 5", "1 nil", "1()", "1 t", "1'a", "1'(1 2)", "1(fn()1)", "1(do)", "1(list)", "1(get)",
            "1 nov", "1(cons 1 2)", "1(print 1)", "1(f)", "1(while nil)", "1(set n 5)", "1(throw 1 2)", "1(vec 8 0)",
            "(cons 1 2)", "(print 1)", "(f)", "(set n 5)", "(if 1 2)", "(while 1)", "(catch 1)", "(do 1)"};
        for (String step : last) {
            Talk talk = loopingMachine();
            talk.said(looping(step), STATE);
            int[] want = {2, 0, 0, 1000, 0, talk.machine.count(5), 0, 0, 1, 2, 1};
            for (int what = 0; what < want.length; what++) {
                talk.counts(what, want[what]);
            }
            Talk.due("it behind " + step, Talk.told(() -> talk.machine.number(1)), "142");
            talk.said("(do n)", "2");
            Talk.due("n behind " + step, Talk.told(() -> talk.machine.number(1)), "0");
        }
        Talk talk = new Talk(0);
        talk.said("(while 1)(while t nil)(print(while 1))", STATE + " " + STATE + " " + STATE);
        talk.counts(3, 1000);
        talk.counts(7, 0);
    }

    /** "in a FORM": each FORM has its own. */
    private static void stepsOfEachForm() {
        Talk talk = loopingMachine();
        for (int i = 0; i < 4; i++) {
            talk.said(looping(" 1"), "2");
            talk.counts(3, 1000);
            talk.said("(do 1)", "2");
            talk.counts(3, 2);
            talk.said("(set n 142)", "2");
        }
        talk.said(looping(" 1 1"), STATE);
        talk.said("()", "1");
        talk.counts(3, 1);
        talk.said("(do 1(car 5)1)", KIND);
        talk.counts(3, 4);
        talk.said("(do 1 1(if))", WRONG);
        talk.counts(3, 4);
        talk.said("(do 1", "");
        talk.counts(3, 4);
    }

    /** "A SYMBOL: ... without one: NoSuchElementException". */
    private static void symbolsWithoutValues() {
        for (String name : new String[] {"it", "quote", "a", "car", "fn", "-", "nill"}) {
            Talk talk = new Talk(0);
            talk.said("(do " + name + ")", NONE);
            talk.said("(set b " + name + ")", NONE);
            talk.said("(do b)", NONE);
            talk.said("((fn(b)" + name + ")5)", NONE);
            talk.counts(9, 0);
            talk.counts(10, 4);
            talk.said("(do(set " + name + " nil)" + name + ")", "1");
            talk.said("(do b)", NONE);
        }
        Talk talk = new Talk(0);
        talk.said("(do t)", "3");
        talk.said("(list 1 nov(print 2))(nov(print 2))", NONE + " " + NONE);
        talk.counts(7, 0);
    }

    /** "its VALUE in the innermost FRAME around that has it, else its own"; set changes it there. */
    private static void whereValuesAre() {
        Talk talk = new Talk(127);
        talk.said("((fn(a)a)5)(do a)", "2 " + NONE);
        talk.said("((fn(a)(set a 6))5)(do a)", "2 " + NONE);
        talk.prints("((fn(a)((fn(a)(set a 3)a)2))1)", "3");
        talk.prints("((fn(a)((fn(a)(set a 3))2)a)1)", "1");
        talk.prints("((fn(a)((fn(b)(set a 3))2)a)1)", "3");
        talk.prints("((fn(a)((fn(b)((fn(c)(list a b c))3))2))1)", "(1 2 3)");
        talk = new Talk(127);
        talk.said("(set f(fn()a))((fn(a)(f))5)", "6 " + NONE);
        talk.said("(set f(fn()(set a 4)))((fn(a)(f)a)5)", "6 2");
        talk.prints("(list a it)", "(4 5)");
        talk.prints("((fn(a b c d)(set d 9)(list a b c d))1 2 3 4)", "(1 2 3 9)");
        talk.prints("((fn(a)((fn(b c d e)(list a b d e))1 2 3 4))0)", "(0 1 3 4)");
    }

    /** "NIL is false, all others are true." */
    private static void whatIsTrue() {
        String[] all = {"0", "-1", "1", "t", "'nill", "'(nil)", "(cons nil nil)", "(vec 0 nil)", "(vec 1 nil)", "(fn())"};
        for (String one : all) {
            Talk talk = new Talk(127);
            talk.prints("(if " + one + " 1 2)", "1");
            talk.prints("(if " + one + " 1)", "1");
            talk.prints("(do(set a 3)(while(if a " + one + ")(set a nil))a)", "nil");
        }
        for (String one : new String[] {"nil", "()", "'nil", "'()", "(do)", "(car nil)", "(get)", "(< 1 1)"}) {
            Talk talk = new Talk(127);
            talk.prints("(if " + one + " 1 2)", "2");
            talk.prints("(if " + one + " 1)", "nil");
            talk.prints("(do(set a 3)(while " + one + "(set a nil))a)", "3");
        }
    }

    /** "or NIL", "NIL for none", "as long as c is true, the others; NIL". */
    private static void noParts() {
        for (String none : new String[] {"(do)", "(catch 1)", "((fn()))", "((fn(a))1)", "(while nil)", "(while nil 5)",
            "(if nil 5)", "(list)", "()", "(do(set a 1)(while a(set a nil)))"}) {
            Talk talk = new Talk(127);
            talk.said(none, "1");
            talk.prints("(list 1 " + none + " 2)", "(1 nil 2)");
            talk.prints("(list 1(do 5 " + none + ")2)", "(1 nil 2)");
        }
    }

    /** "one of these SYMBOLS (they mean so there alone, whatever their VALUES)". */
    private static void namesOfOperators() {
        Talk talk = new Talk(127);
        talk.said("(set car(fn(x)7))(set do 5)(set list nil)", "6 2 1");
        talk.prints("(list(car '(1))do list)", "(1 5 nil)");
        talk.prints("((do car)0)", "7");
        talk.prints("((fn(if)(if if 1 2))nil)", "2");
        talk.said("((fn(get)(get))(fn()8))", "1");
        talk.said("((quote car)'(1))", KIND);
    }

    /** "(throw x y): ... there is none: NoSuchElementException", when x and y are EVALUATED. */
    private static void throwsWithoutCatch() {
        Talk talk = new Talk(127);
        talk.said("(throw 1 2)", NONE);
        talk.said("(throw nil nil)", NONE);
        talk.said("(catch 1(throw 2 2))", NONE);
        talk.said("(catch nil(throw 0 2))", NONE);
        talk.said("(catch '(1)(throw '(1)2))", NONE);
        talk.said("(catch(vec 0 0)(throw(vec 0 0)2))", NONE);
        talk.said("(catch(throw 1 2)1)", NONE);
        talk.said("(do(catch 1 2)(throw 1 2))", NONE);
        talk.said("(do(catch 1(throw 1 2))(throw 1 2))", NONE);
        talk.said("(list(catch 1)(throw 1 2))", NONE);
        talk = new Talk(127);
        talk.said("(catch 1 2)(throw 1 2)", "2 " + NONE);
        talk.said("(catch 1(car 5))(throw 1 2)", KIND + " " + NONE);
        talk.said("(set f(fn()(catch 1 2)))(do(f)(throw 1 2))", "6 " + NONE);
        talk.said("(throw(print 1)(print 2))", NONE);
        Talk.due("both are evaluated", talk.printed(), "1\n2\n");
        talk.said("(throw nov(print 1))(throw 1(car 5))", NONE + " " + KIND);
        talk.counts(7, 0);
    }

    /** "the VALUE of the innermost catch going on whose TAG is the same as x is y". */
    private static void theInnermostCatch() {
        Talk talk = new Talk(127);
        talk.prints("(list(catch 1(list(catch 1(throw 1 2)5)3)))", "((2 3))");
        talk.prints("(catch 1(catch 2(catch 3(throw 2 7))8)9)", "9");
        talk.prints("(catch 1(list(catch 2(catch 3(throw 1 7))8)9))", "7");
        talk.prints("(catch 2(list(catch 1(catch 3(throw 1 7))8)))", "(7)");
        talk.prints("(catch nil(throw nil 4))", "4");
        talk.prints("(catch(catch 1(throw 1 5))(throw 5 6))", "6");
        talk.prints("(catch 1(catch(throw 1 5)6))", "5");
        talk = new Talk(127);
        talk.said("(set v(vec 1 0))(set f(fn(x)(throw v x)))", "5 6");
        talk.prints("(catch v(list 1(f 8)))", "8");
        talk.prints("((fn(a)(list a(catch v((fn(a)(f a))2))a))1)", "(1 2 1)");
        talk.prints("(catch v(throw v v))", "[0]");
        talk.prints("(catch f(throw f(print 3))(print 4))", "3\n3");
    }

    /** "its VALUE becomes that of it", when it came to one. */
    private static void theValueOfIt() {
        Talk talk = new Talk(0);
        talk.said("(car 5)", KIND);
        Talk.due("it has none", Talk.told(() -> talk.machine.kind(1)), "0");
        talk.said("(do 5)(car 5)(if)(do 99999)", "2 " + KIND + " " + WRONG + " " + WRONG);
        Talk.due("it", Talk.told(() -> talk.machine.number(1)), "5");
        talk.said("(do(set it 6)(car 5))", KIND);
        Talk.due("it was set", Talk.told(() -> talk.machine.number(1)), "6");
        talk.said("(do(set it 7)8)", "2");
        Talk.due("it", Talk.told(() -> talk.machine.number(1)), "8");
        talk.said("(do it)(do nil)", "2 1");
        Talk.due("it is NIL", Talk.told(() -> talk.machine.kind(1)), "1");
        talk.counts(9, 4);
        talk.counts(10, 4);
    }

    /** "What was done before in the FORM stays; nothing goes on then." */
    private static void whatStays() {
        String[][] fails = {{"(car 5)", KIND}, {" nov", NONE}, {"(throw 9 1)", NONE}, {"(/ 1 0)", "ArithmeticException"},
            {"(+ 32767 1)", "ArithmeticException"}, {"(ref(vec 0 0)0)", "IndexOutOfBoundsException"}, {"(5)", KIND},
            {"(while 1)", STATE}, {"(g)", STATE}, {"(while 1(set k(list k k)))", STATE}, {"(vec 8 1)", KIND}};
        for (String[] fail : fails) {
            Talk talk = new Talk(127);
            talk.machine.give(1);
            talk.machine.give(2);
            talk.said("(set g(fn()(g)))(set k 0)(set c(cons 1 2))(set a 0)", "6 2 4 2");
            String body = "(set a 1)(print 5)(get)(rca c 3)" + fail[0] + "(set a 2)(print 6)(get)(rca c 4)";
            talk.said("(list(catch 1((fn(x)" + body + ")1)(set a 3))(set a 4))", fail[1]);
            talk.counts(7, 2);
            talk.counts(8, 1);
            talk.counts(9, 4);
            talk.counts(10, 1);
            Talk.due("it behind " + fail[0], Talk.told(() -> talk.machine.number(1)), "0");
            talk.said("(set k 0)", "2");
            talk.prints("(cons a c)", "5\n(1 3 . 2)");
            // neither the catch, nor the call, nor its frame goes on
            talk.said("(throw 1 2)(do x)", NONE + " " + NONE);
            talk.said("((fn(n)(set h(fn(n)(if(< n 1)0(h(- n 1)))))(h 28))1)", "2");
            talk.counts(4, 30);
        }
    }

    /** Lists of every sort can be read 12 deep; so they can be run. */
    private static void twelveDeep() {
        String[][] nests = {{"(do ", ")", "2"}, {"(if 1 ", ")", "2"}, {"(if nil 1 ", ")", "2"}, {"(if ", " 7)", "2"},
            {"(set a ", ")", "2"}, {"(while nil ", ")", "1"}, {"(fn nil ", ")", "6"}, {"(catch 1 ", ")", "2"},
            {"(catch ", " 7)", "2"}, {"(throw 1 ", ")", NONE}, {"(list ", ")", "4"}, {"(list 1 2 3 ", ")", "4"},
            {"(+ 0 ", ")", "2"}, {"(print ", ")", "2"}, {"(f ", ")", "2"}, {"(g 1 2 3 ", ")", "2"}, {"(", ")", KIND}};
        for (String[] nest : nests) {
            Talk talk = new Talk(127);
            talk.said("(do(set f(fn(x)x))(set g(fn(w x y z)z))0)", "2");
            talk.said(nest[0].repeat(12) + "7" + nest[1].repeat(12), nest[2]);
            talk.said("(do(if))", WRONG);
            talk.said(nest[0].repeat(11) + "(if)" + nest[1].repeat(11), WRONG);
        }
    }
}
