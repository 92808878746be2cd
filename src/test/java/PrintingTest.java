/** PRINTING and promise 4: what is printed, and how it is taken. */
public final class PrintingTest {
    public static void main(String[] args) {
        values();
        deep();
        full();
        taken();
        Talk.end();
    }

    private static void values() {
        Talk talk = new Talk(127);
        talk.prints("nil", "nil");
        talk.prints("-32768", "-32768");
        talk.prints("(list 0 10 100 1000)", "(0 10 100 1000)");
        talk.prints("(list 10000 9999 -10 -909)", "(10000 9999 -10 -909)");
        talk.prints("'abcde", "abcde");
        talk.prints("(fn())", "#");
        talk.prints("(list(fn())(vec 2(fn())))", "(# [# #])");
        talk.prints("(vec 0 1)", "[]");
        talk.prints("(vec 1 nil)", "[nil]");
        talk.prints("(cons 1(cons 2 3))", "(1 2 . 3)");
        talk.prints("(cons(cons 1 2)(vec 1 5))", "((1 . 2) . [5])");
        talk.prints("(cons nil 't)", "(nil . t)");
    }

    private static void deep() {
        Talk talk = new Talk(127);
        talk.say("(set a 1)(set n 0)(while(< n 8)(set a(list a))(set n(+ n 1)))");
        talk.prints("a", "((((((((1))))))))");
        talk.prints("(list a)", "((((((((*))))))))");
        talk.prints("(cons 1(cons 2 a))", "(1 2 (((((((1))))))))");
        talk.prints("(cons a 2)", "((((((((*)))))))" + " . 2)");
        talk = new Talk(127);
        talk.say("(set b(vec 1 1))(set n 1)(while(< n 8)(set b(vec 1 b))(set n(+ n 1)))");
        talk.prints("b", "[[[[[[[[1]]]]]]]]");
        talk.prints("(cons 5 b)", "(5 . [[[[[[[*]]]]]]])");
        talk.prints("(vec 1 b)", "[[[[[[[[*]]]]]]]]");
        talk = new Talk(127);
        talk.say("(set v(vec 1 0))(put v 0 v)");
        talk.prints("v", "[[[[[[[[*]]]]]]]]");
        Talk other = new Talk(127);
        other.say("(set a(list 1 2))(rca a a)");
        other.prints("a", "((((((((* 2) 2) 2) 2) 2) 2) 2) 2)");
    }

    private static void full() {
        Talk talk = new Talk(127);
        talk.said("(set a(list 1))(rcd a a)(print a)", "4 4 4");
        talk.counts(7, 200);
        StringBuilder want = new StringBuilder("(1");
        while (want.length() < 200) {
            want.append(" 1");
        }
        talk.said("(print 5)", "2");
        talk.counts(7, 200);
        talk.machine.take();
        talk.machine.take();
        talk.said("(print 12345)", "2");
        talk.counts(7, 200);
        Talk.due("the output", talk.printed(), want.substring(2, 200) + "12");
        talk = new Talk(127);
        talk.say("(set v(vec 7 0))(set n 0)(while(< n 7)(put v n v)(set n(+ n 1)))(print v)");
        talk.counts(7, 200);
        Talk.due("the output", talk.printed().substring(0, 30), "[[[[[[[[* * * * * * *] [* * * ");
        talk = new Talk(127);
        talk.say("(set n 0)(while(< n 33)(print 12345)(set n(+ n 1)))(print 1)(print 2)");
        talk.counts(7, 200);
        Talk.due("exactly full", talk.printed(), "12345\n".repeat(33) + "1\n");
    }

    private static void taken() {
        Talk talk = new Talk(0);
        Talk.due("take", Talk.told(() -> talk.machine.take()), "NoSuchElementException");
        talk.say("(do(print 1)(print 2))");
        for (int want : new int[] {'1', 10, '2', 10}) {
            Talk.due("take", Talk.told(() -> talk.machine.take()), Integer.toString(want));
        }
        Talk.due("take", Talk.told(() -> talk.machine.take()), "NoSuchElementException");
        talk.counts(7, 0);
    }
}
