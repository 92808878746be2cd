/** Promise 2, RUNNING: special forms, steps, calls, ill-formed forms. */
public final class RunningTest {
    private static final String WRONG = "IllegalArgumentException";
    private static final String KIND = "UnsupportedOperationException";
    private static final String NONE = "NoSuchElementException";
    private static final String STATE = "IllegalStateException";

    public static void main(String[] args) {
        kinds();
        values();
        specialForms();
        closures();
        catching();
        steps();
        calls();
        illFormed();
        whatStays();
        Talk.end();
    }

    private static void kinds() {
        Talk talk = new Talk(100);
        talk.said("(do nil)(do 5)(do t)(cons 1 2)(vec 2 1)(fn())", "1 2 3 4 5 6");
        talk.said("(quote(1))", "4");
    }

    private static void values() {
        Talk talk = new Talk(100);
        talk.said("(do a)", NONE);
        talk.said("(do car)", NONE);
        talk.said("(set a 5)(do a)", "2 2");
        talk.prints("it", "5");
        talk.said("(set t 7)", "2");
        talk.prints("t", "7");
        talk.prints("(eq 1 1)", "t");
        talk.said("(set car 3)", "2");
        talk.prints("(car '(8))", "8");
        talk.prints("car", "3");
        talk.prints("((fn(cdr)(cdr '(1 2)))9)", "(2)");
        talk.said("(set it 4)", "2");
        talk.said("(do(set it 4)nil)", "1");
        talk.prints("it", "nil");
    }

    private static void specialForms() {
        Talk talk = new Talk(127);
        talk.prints("(quote(a b))", "(a b)");
        talk.prints("(if nil 1 2)", "2");
        talk.prints("(if 0 1 2)", "1");
        talk.prints("(if nil 1)", "nil");
        talk.prints("(if '() 1)", "nil");
        talk.prints("(if 'nil (foo) 3)", "3");
        talk.prints("(do)", "nil");
        talk.prints("(do 1 2 3)", "3");
        talk.prints("(set x(+ 1 2))", "3");
        talk.prints("(do(set x 0)(while(< x 3)(print x)(set x(+ x 1))))", "0\n1\n2\nnil");
        talk.prints("(while nil(foo))", "nil");
        talk.prints("(do(set x 3)(while(set x(if(< 0 x)(- x 1)))))", "nil");
        talk.prints("(do(set y 1)(list y(set y 2)y))", "(1 2 2)");
    }

    private static void closures() {
        Talk talk = new Talk(127);
        talk.prints("((fn(a b)(- a b))5 3)", "2");
        talk.prints("((fn()))", "nil");
        talk.prints("((fn nil 1 2))", "2");
        talk.prints("((fn(a b c d)(list d c b a))1 2 3 4)", "(4 3 2 1)");
        talk.prints("((fn(x)((fn(y)(list x y))2))1)", "(1 2)");
        talk.prints("((fn(x)((fn(x)(do(set x 5)x))2)x)1)", "1");
        talk.prints("((fn(x)((fn(y)(set x y))2)x)1)", "2");
        talk.said("(set c((fn(n)(fn()(set n(+ n 1))))0))(c)(c)", "6 2 2");
        talk.prints("(c)", "3");
        talk = new Talk(127);
        talk.said("(set x 1)(set f(fn()x))(set g(fn(x)(f)))", "2 6 6");
        talk.prints("(g 2)", "1");
        talk.prints("((fn(x)(set z 3)(set x 4))1)", "4");
        talk.prints("(list x z)", "(1 3)");
        talk.said("((fn quote 8 quote))", WRONG);
        talk.prints("((fn 'k (list quote k)) 1 2)", "(1 2)");
    }

    private static void catching() {
        Talk talk = new Talk(127);
        talk.prints("(catch 1)", "nil");
        talk.prints("(catch 1 2 3)", "3");
        talk.prints("(catch 'a(print 1)(throw 'a 2)(print 3))", "1\n2");
        talk.prints("(catch 1(catch 2(throw 1 5))6)", "5");
        talk.prints("(catch 1(catch 1(throw 1 5))6)", "6");
        talk.prints("(catch nil(throw nil 5))", "5");
        talk.said("(throw 1 2)", NONE);
        talk.said("(catch 1(throw 2 2))", NONE);
        talk.said("(catch(cons 1 2)(throw(cons 1 2)3))", NONE);
        talk.said("(do(catch 1 2)(throw 1 3))", NONE);
        talk.said("(do(catch 1(throw 1 2))(throw 1 3))", NONE);
        talk.said("(catch(throw 1 2)3)", NONE);
        talk.prints("(catch 1(throw 1(throw 1 7)))", "7");
        talk = new Talk(127);
        talk.said("(set f(fn(x)(throw 'k(+ x 1))))", "6");
        talk.prints("(list 1(catch 'k(list 2(f 3)))5)", "(1 4 5)");
        talk.prints("((fn(x)(+(catch 'k(f 3))x))10)", "14");
        talk.prints("(do(set p(cons 1 2))(catch p(throw p 9)))", "9");
    }

    private static void steps() {
        Talk talk = new Talk(127);
        talk.said("(do)", "1");
        talk.counts(3, 1);
        talk.said("(quote(a b))", "4");
        talk.counts(3, 1);
        talk.said("(if 1 2 3)", "2");
        talk.counts(3, 3);
        talk.said("(if nil 2)", "1");
        talk.counts(3, 2);
        talk.said("(fn(a)a)", "6");
        talk.counts(3, 1);
        talk.said("((fn(a)a a)1)", "2");
        talk.counts(3, 5);
        talk.said("(catch 1 2(throw 1 3)4)", "2");
        talk.counts(3, 6);
        talk.said("(set x 4)", "2");
        talk.counts(3, 2);
        talk.said("(while nil 5)", "1");
        talk.counts(3, 2);
        talk.said("(set x 0)(while(< x 124)(set x(+ x 1)))", "2 1");
        talk.counts(3, stepsOf(124));
        talk = new Talk(127);
        talk.said("(while 1)", STATE);
        talk.counts(3, 1000);
        String loop = "(while(< x 141)(set x(+ x 1)))";
        int steps = 1 + 2 + stepsOf(141);
        StringBuilder more = new StringBuilder();
        for (int i = steps; i < 1000; i++) {
            more.append(" 1");
        }
        talk.said("(do(set x 0)" + loop + more + ")", "2");
        talk.counts(3, 1000);
        talk.said("(do(set x 0)" + loop + more + "(print 1))", STATE);
        talk.counts(3, 1000);
        Talk.due("the 1001st step is not done", talk.printed(), "");
    }

    private static void calls() {
        Talk talk = new Talk(127);
        talk.said("(set f(fn(n)(if(eq n 0)0(f(- n 1)))))(f 29)", "6 2");
        talk.counts(4, 30);
        talk.said("(f 30)", STATE);
        talk.counts(4, 30);
        talk.said("(f 28)", "2");
        talk.counts(4, 29);
        talk.said("(do 1)", "2");
        talk.counts(4, 0);
        talk.said("(f(f(f 1)))", "2");
        talk.counts(4, 2);
        talk.said("(1)(nil)('f)(f)(f 1 2)((fn()1)1)", KIND + " " + KIND + " " + KIND + " " + KIND + " " + KIND + " " + KIND);
        talk.said("(1(print 2))", KIND);
        Talk.due("all are evaluated first", talk.printed(), "2\n");
        talk.said("(nof(print 3))", NONE);
        Talk.due("in their order", talk.printed(), "");
    }

    /** The steps of (while(< x n)(set x(+ x 1))) from x 0. */
    private static int stepsOf(int n) {
        return 1 + (n + 1) * 3 + n * 4;
    }

    private static void illFormed() {
        String[] wrong = {"(quote)", "(quote a b)", "(if)", "(if 1)", "(if 1 2 3 4)", "(set)", "(set a)",
            "(set a 1 2)", "(set 1 2)", "(set nil 2)", "(set (a) 2)", "(set 'a 2)", "(while)", "(fn)", "(fn a)",
            "(fn 1)", "(fn(1))", "(fn(a a))", "(fn(a b c a))", "(fn(a b c d e))", "(fn((a)))", "(fn(nil))",
            "(catch)", "(throw)", "(throw 1)", "(throw 1 2 3)", "(car)", "(car 1 2)", "(cons 1)", "(cons 1 2 3)",
            "(list 1 2 3 4 5)", "(get 1)", "(print)", "(put 1 2)", "(put 1 2 3 4)", "(+ 1)", "(< 1 2 3)", "(len)",
            "(a 1 2 3 4 5)", "(1 2 3 4 5 6)", "((fn()) 1 2 3 4 5)", "(eq 1)", "(sh 1)", "(vec 1)", "(ref 1)",
            "(rca 1)", "(rcd 1)", "(atom)", "(and 1)", "(or 1)", "(xor 1)", "(* 1)", "(/ 1)", "(- 1)"};
        for (String form : wrong) {
            Talk talk = new Talk(0);
            talk.said(form, WRONG);
            talk.counts(10, 1);
            talk.counts(3, 0);
            talk.said("(do(print 1)(if nil " + form + "))", WRONG);
            talk.said("(fn()" + form + ")", WRONG);
            talk.said("(while nil " + form + ")", WRONG);
            talk.said("(catch 1 " + form + ")", WRONG);
            talk.said("(nof " + form + ")", WRONG);
            talk.said("(set a " + form + ")", WRONG);
            Talk.due("nothing is done for " + form, talk.printed(), "");
            talk.said("(quote " + form + ")", "4");
            talk.counts(10, 7);
            talk.counts(9, 1);
        }
        Talk talk = new Talk(127);
        talk.said("(do 1 2)(if)", "2 " + WRONG);
        talk.counts(3, 3);
        talk.prints("it", "2");
        talk.said("(list 1 2 3 4)(list)", "4 1");
    }

    private static void whatStays() {
        Talk talk = new Talk(127);
        talk.said("(do 8)(do(set a 1)(set b 2)(car 5)(set a 3))", "2 " + KIND);
        talk.prints("(list it a b)", "(8 1 2)");
        talk.said("((fn(x)(car x))1)", KIND);
        talk.said("(do x)", NONE);
        talk.said("(catch 1(car 5))(throw 1 2)", KIND + " " + NONE);
        talk.counts(9, 2);
        talk.counts(10, 5);
    }
}
