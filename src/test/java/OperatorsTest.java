/** Promise 2, the operators: what each answers, and what it refuses. */
public final class OperatorsTest {
    private static final String KIND = "UnsupportedOperationException";
    private static final String RANGE = "ArithmeticException";
    private static final String INDEX = "IndexOutOfBoundsException";

    public static void main(String[] args) {
        cells();
        sameness();
        arithmetic();
        bits();
        vectors();
        inAndOut();
        otherKinds();
        Talk.end();
    }

    private static void cells() {
        Talk talk = new Talk(127);
        talk.prints("(car '(1 2))", "1");
        talk.prints("(cdr '(1 2))", "(2)");
        talk.prints("(list(car nil)(cdr nil))", "(nil nil)");
        talk.prints("(cons 1 2)", "(1 . 2)");
        talk.prints("(cons 1 nil)", "(1)");
        talk.said("(set a(cons 1 2))(set b(rca a 5))", "4 4");
        talk.prints("(list a(eq a b))", "((5 . 2) t)");
        talk.prints("(rcd a '(6))", "(5 6)");
        talk.prints("(list)", "nil");
        talk.prints("(list 1)", "(1)");
        talk.prints("(list 1 2 3 4)", "(1 2 3 4)");
        talk.prints("(list(atom 1)(atom nil)(atom 'a)(atom a))", "(t t t nil)");
        talk.prints("(list(atom(vec 1 1))(atom(fn())))", "(t t)");
        talk = new Talk(127);
        talk.said("(set f(fn()'(1 2)))(rca(f)9)", "6 4");
        talk.prints("(f)", "(9 2)");
    }

    private static void sameness() {
        Talk talk = new Talk(127);
        talk.prints("(list(eq 1 1)(eq 1 2)(eq nil '())(eq 'a 'a))", "(t nil t t)");
        talk.prints("(list(eq 'a 'b)(eq nil 0)(eq(cons 1 2)(cons 1 2)))", "(nil nil nil)");
        talk.prints("(list(eq '(1)'(1))(eq(vec 0 1)(vec 0 1)))", "(nil nil)");
        talk.prints("(do(set v(vec 0 1))(set w v)(eq v w))", "t");
        talk.prints("(eq(fn())(fn()))", "nil");
        talk.prints("(do(set f(fn()'(1)))(eq(f)(f)))", "t");
    }

    private static void arithmetic() {
        Talk talk = new Talk(127);
        talk.prints("(list(+ 2 3)(- 2 3)(* -4 5)(/ 7 2))", "(5 -1 -20 3)");
        talk.prints("(list(/ -7 2)(/ 7 -2)(/ -7 -2)(/ 0 5))", "(-3 -3 3 0)");
        talk.prints("(list(+ 32766 1)(- -32767 1)(* 16384 -2)(/ -32768 1))", "(32767 -32768 -32768 -32768)");
        talk.said("(+ 32767 1)(- -32768 1)(* 16384 2)(/ -32768 -1)(/ 1 0)(* -32768 -32768)",
                RANGE + " " + RANGE + " " + RANGE + " " + RANGE + " " + RANGE + " " + RANGE);
        talk.prints("(list(< 1 2)(< 2 2)(< 3 2)(< -1 0))", "(t nil nil t)");
    }

    private static void bits() {
        Talk talk = new Talk(127);
        talk.prints("(list(and 12 10)(or 12 10)(xor 12 10)(and -1 7))", "(8 14 6 7)");
        talk.prints("(list(or -32768 32767)(xor -1 0)(xor -32768 -1)(and -32768 -1))", "(-1 -1 32767 -32768)");
        talk.prints("(list(sh 1 15)(sh 1 14)(sh -1 -15)(sh -1 -1))", "(-32768 16384 1 32767)");
        talk.prints("(list(sh -1 1)(sh 3 0)(sh -3 0)(sh 32767 1))", "(-2 3 -3 -2)");
        talk.prints("(list(sh -32768 1)(sh 5 -1)(sh 5 -3)(sh -32768 -15))", "(0 2 0 1)");
        talk.said("(sh 1 16)(sh 1 -16)(sh 1 32767)(sh 1 -32768)", KIND + " " + KIND + " " + KIND + " " + KIND);
    }

    private static void vectors() {
        Talk talk = new Talk(127);
        talk.said("(set v(vec 3 'a))", "5");
        talk.prints("v", "[a a a]");
        talk.prints("(list(put v 0 1)(put v 2 '(2))v(len v))", "(1 (2) [1 a (2)] 3)");
        talk.prints("(list(ref v 0)(ref v 1)(ref v 2))", "(1 a (2))");
        talk.said("(ref v 3)(ref v -1)(put v 3 0)(put v -1 0)", INDEX + " " + INDEX + " " + INDEX + " " + INDEX);
        talk = new Talk(127);
        talk.said("(set v(vec 3 'a))", "5");
        talk.said("(ref(vec 0 0)0)(ref v 32767)(ref v -32768)", INDEX + " " + INDEX + " " + INDEX);
        talk.prints("(list(len(vec 0 1))(len(vec 7 1)))", "(0 7)");
        talk.said("(vec 8 0)(vec -1 0)(vec nil 0)", KIND + " " + KIND + " " + KIND);
        talk.said("(ref v nil)(ref nil 0)(put nil 9 0)(put v 'a 0)(len nil)(len '(1))",
                KIND + " " + KIND + " " + KIND + " " + KIND + " " + KIND + " " + KIND);
        talk.prints("v", "[a a a]");
    }

    private static void inAndOut() {
        Talk talk = new Talk(127);
        talk.said("(get)", "1");
        talk.machine.give(7);
        talk.machine.give(-8);
        talk.prints("(list(get)(get)(get))", "(7 -8 nil)");
        talk.prints("(+(print 3)4)", "3\n7");
    }

    private static void otherKinds() {
        String[] values = {"nil", "5", "'a", "(cons 1 2)", "(vec 1 1)", "(fn())"};
        for (int i = 0; i < values.length; i++) {
            String x = values[i];
            Talk talk = new Talk(127);
            talk.said("(car " + x + ")", i == 0 ? "1" : i == 3 ? "2" : KIND);
            talk.said("(cdr " + x + ")", i == 0 ? "1" : i == 3 ? "2" : KIND);
            talk.said("(rca " + x + " 1)", i == 3 ? "4" : KIND);
            talk.said("(rcd " + x + " 1)", i == 3 ? "4" : KIND);
            talk.said("(len " + x + ")", i == 4 ? "2" : KIND);
            talk.said("(ref " + x + " 0)", i == 4 ? "2" : KIND);
            talk.said("(put " + x + " 0 1)", i == 4 ? "2" : KIND);
            talk.said("(ref(vec 6 1)" + x + ")", i == 1 ? "2" : KIND);
            talk.said("(vec " + x + " 1)", i == 1 ? "5" : KIND);
            for (String operator : new String[] {"+", "-", "*", "/", "<", "and", "or", "xor", "sh"}) {
                String want = i == 1 ? operator.equals("<") ? "1" : "2" : KIND;
                talk.said("(" + operator + " " + x + " 1)", want);
                talk = new Talk(127);
                talk.said("(" + operator + " 1 " + x + ")", i == 1 && operator.equals("<") ? "3" : want);
            }
            talk.said("(" + "car(do(print 1)" + x + "))", i == 0 ? "1" : i == 3 ? "2" : KIND);
            Talk.due("parts are evaluated first", talk.printed(), "1\n");
        }
        Talk talk = new Talk(127);
        talk.said("(+ nil(print 2))(/ nil 0)(/ 1 nil)", KIND + " " + KIND + " " + KIND);
        Talk.due("when all parts are evaluated", talk.printed(), "2\n");
    }
}
