/** PRINTING at its edges; each test bears the sentence of the document that it is for. */
public final class PrintingEdgesTest {
    private static final int MOST = 200;

    public static void main(String[] args) {
        printedAtTheEnd();
        nothingBehindTheEnd();
        roomAgain();
        aroundAgain();
        circles();
        eightDeep();
        eightDeepBehindThePoint();
        whateverItsLength();
        eachValue();
        points();
        Talk.end();
    }

    /** A form that prints so many characters, 190 at least; a number takes its digits and one more. */
    private static String printing(int characters) {
        StringBuilder form = new StringBuilder("(do(set n 0)(while(< n 31)(print 12345)(set n(+ n 1)))");
        int rest = characters - 31 * 6;
        while (rest > 0) {
            int next = rest <= 6 ? rest : rest == 7 ? 5 : 6;
            form.append("(print ").append("12345", 0, next - 1).append(")");
            rest -= next;
        }
        return form.append("0)").toString();
    }

    /** "OUTPUT keeps 200 characters: printing ends when it is full." */
    private static void printedAtTheEnd() {
        String[][] values = {{"12345", "12345", "2"}, {"-7", "-7", "2"}, {"'abcde", "abcde", "3"}, {"nil", "nil", "1"},
            {"'(1(2)3)", "(1 (2) 3)", "4"}, {"(cons 1 2)", "(1 . 2)", "4"}, {"(vec 3 1)", "[1 1 1]", "5"},
            {"(vec 0 1)", "[]", "5"}, {"(fn())", "#", "6"}, {"'(((a)))", "(((a)))", "4"}};
        for (String[] value : values) {
            for (int before = 190; before <= MOST; before++) {
                Talk talk = new Talk(127);
                talk.said(printing(before), "2");
                talk.counts(7, before);
                talk.said("(print " + value[0] + ")", value[2]);
                String want = value[1] + "\n";
                int fits = Math.min(want.length(), MOST - before);
                talk.counts(7, before + fits);
                String got = talk.printed();
                Talk.due(value[0] + " behind " + before, got.substring(before), want.substring(0, fits));
                Talk.due("what stood before", got.substring(0, 186), "12345\n".repeat(31));
            }
        }
    }

    /** When it is full, print answers a as ever, and nothing comes to the OUTPUT. */
    private static void nothingBehindTheEnd() {
        String[][] values = {{"1", "2"}, {"nil", "1"}, {"'(1 2)", "4"}, {"(vec 7 1)", "5"}, {"(fn())", "6"}};
        for (String[] value : values) {
            Talk talk = new Talk(127);
            talk.said(printing(MOST), "2");
            talk.counts(7, MOST);
            talk.said("(print " + value[0] + ")", value[1]);
            talk.said("(do(print 1)(print 2)3)", "2");
            talk.counts(7, MOST);
            String all = talk.printed();
            Talk.due("what was printed", all.substring(0, 186), "12345\n".repeat(31));
            Talk.due("what was printed last", all.substring(186), "12345\n12345\n1\n");
        }
    }

    /** A character that is taken makes room for one. */
    private static void roomAgain() {
        Talk talk = new Talk(127);
        talk.said(printing(MOST), "2");
        Talk.due("take", Talk.told(() -> talk.machine.take()), "49");
        talk.counts(7, MOST - 1);
        talk.said("(print 67)", "2");
        talk.counts(7, MOST);
        Talk.due("the last one", talk.printed().substring(MOST - 2), "\n6");
        talk.counts(7, 0);
        Talk.due("take", Talk.told(() -> talk.machine.take()), "NoSuchElementException");
        talk.said("(print 8)", "2");
        Talk.due("again", talk.printed(), "8\n");
    }

    /** "The oldest character of the OUTPUT is taken out": in their order, also when the row goes around. */
    private static void aroundAgain() {
        Talk talk = new Talk(127);
        talk.said("(set n 9)", "2");
        StringBuilder want = new StringBuilder();
        StringBuilder got = new StringBuilder();
        // 27 characters a round, 324 in all
        talk.said("(set f(fn()(set n(+ n 1))(print(list n 'abcde 12345 'xyz))(print 'vwxyz)))", "6");
        for (int i = 10; i < 22; i++) {
            talk.said("(f)", "3");
            want.append("(").append(i).append(" abcde 12345 xyz)\nvwxyz\n");
            if (i >= 12) {
                for (int k = 0; k < 30; k++) {
                    got.append((char) talk.machine.take());
                }
            }
        }
        got.append(talk.printed());
        Talk.due("the order", got.toString(), want.toString());
    }

    /** A list or a VECTOR that contains itself is printed until the OUTPUT is full. */
    private static void circles() {
        Talk list = new Talk(127);
        list.said("(set a(list 1))(rcd a a)(print a)", "4 4 4");
        Talk.due("a list in a circle", list.printed(), "(1" + " 1".repeat(99));
        Talk two = new Talk(127);
        two.said("(set a(list 1 2))(do(rcd(cdr a)a)(print a))", "4 4");
        Talk.due("a list in a circle of two", two.printed(), "(1" + " 2 1".repeat(49) + " 2");
        Talk head = new Talk(127);
        head.said("(set a(list 1))(rca a a)(print a)", "4 4 4");
        Talk.due("a list in itself", head.printed(), "((((((((*))))))))\n");
        Talk both = new Talk(127);
        both.said("(set a(list 1))(do(rca a a)(rcd a a)(print a))", "4 4");
        Talk.due("a list in itself and in a circle", both.printed(), "((((((((*" + " *".repeat(95) + " ");
        Talk vector = new Talk(127);
        vector.said("(set a(vec 1 0))(put a 0 a)(print a)", "5 5 5");
        Talk.due("a vector in itself", vector.printed(), "[[[[[[[[*]]]]]]]]\n");
        Talk wide = new Talk(127);
        wide.said("(set a(vec 3 0))(do(put a 0 a)(put a 1 a)(put a 2 a)(print a))", "5 5");
        String last = "[* * *]";
        String three = "[" + last + " " + last + " " + last + "]";
        String nine = "[" + three + " " + three + " " + three + "]";
        Talk.due("a vector thrice in itself", wide.printed(), ("[[[[[" + nine + " " + nine + " " + nine).substring(0, MOST));
    }

    private static String wrapped(String open, String inner, String close, int times) {
        return open.repeat(times) + inner + close.repeat(times);
    }

    /** A machine whose a is the value, wrapped so often by the form, which uses a. */
    private static Talk wrapping(String value, String wrap, int times) {
        Talk talk = new Talk(127);
        talk.say("(do(set n 0)(set a " + value + ")(while(< n " + times + ")(set a " + wrap + ")(set n(+ n 1))))");
        return talk;
    }

    /** "A CELL or VECTOR within 8 others is just *". */
    private static void eightDeep() {
        String[][] values = {{"'(1 2)", "(1 2)"}, {"(cons 1 2)", "(1 . 2)"}, {"(vec 0 0)", "[]"}, {"(vec 2 1)", "[1 1]"}};
        for (String[] value : values) {
            for (int times = 6; times <= 10; times++) {
                String inner = times >= 8 ? "*" : value[1];
                wrapping(value[0], "(list a)", times).prints("a", wrapped("(", inner, ")", Math.min(times, 8)));
                wrapping(value[0], "(vec 1 a)", times).prints("a", wrapped("[", inner, "]", Math.min(times, 8)));
                int pairs = Math.min(times / 2, 4);
                String half = 2 * (times / 2) >= 8 ? "*" : value[1];
                wrapping(value[0], "(vec 1(list a))", times / 2).prints("a", wrapped("[(", half, ")]", pairs));
                wrapping(value[0], "(list(vec 1 a))", times / 2).prints("a", wrapped("([", half, "])", pairs));
            }
        }
        // what is neither CELL nor VECTOR is printed at any depth
        for (String[] value : new String[][] {{"nil", "nil"}, {"-12", "-12"}, {"'abc", "abc"}, {"(fn())", "#"}}) {
            wrapping(value[0], "(list a)", 8).prints("a", wrapped("(", value[1], ")", 8));
            wrapping(value[0], "(list a)", 9).prints("a", wrapped("(", "*", ")", 8));
            wrapping(value[0], "(vec 1 a)", 8).prints("a", wrapped("[", value[1], "]", 8));
        }
    }

    /** "within a list ... are its CARS and what stands behind the point". */
    private static void eightDeepBehindThePoint() {
        wrapping("(cons 1(vec 0 0))", "(list a)", 6).prints("a", wrapped("(", "(1 . [])", ")", 6));
        wrapping("(cons 1(vec 0 0))", "(list a)", 7).prints("a", wrapped("(", "(1 . *)", ")", 7));
        wrapping("(cons 1(vec 0 0))", "(list a)", 8).prints("a", wrapped("(", "*", ")", 8));
        wrapping("(cons 1(fn()))", "(list a)", 7).prints("a", wrapped("(", "(1 . #)", ")", 7));
        wrapping("(vec 0 0)", "(vec 1(cons 1 a))", 3).prints("a", wrapped("[(1 . ", "[]", ")]", 3));
        wrapping("(vec 0 0)", "(vec 1(cons 1 a))", 4).prints("a", wrapped("[(1 . ", "*", ")]", 4));
        wrapping("(vec 1 5)", "(vec 1(cons 1 a))", 3).prints("a", wrapped("[(1 . ", "[5]", ")]", 3));
    }

    /** "(within a list, one whatever its length, ...)": CDRS go no deeper. */
    private static void whateverItsLength() {
        Talk.fresh("'(1 2 3 4 5 6 7 8 9 10 11 12(13)(14))", "(1 2 3 4 5 6 7 8 9 10 11 12 (13) (14))");
        wrapping("'(1 2(3)4 5 6 7 8 9 10(11))", "(list a)", 7).prints("a",
                wrapped("(", "(1 2 * 4 5 6 7 8 9 10 *)", ")", 7));
        wrapping("'(1 2(3)4 5 6 7 8 9 10(11))", "(list a)", 6).prints("a",
                wrapped("(", "(1 2 (3) 4 5 6 7 8 9 10 (11))", ")", 6));
        wrapping("nil", "(cons n a)", 12).prints("a", "(11 10 9 8 7 6 5 4 3 2 1 0)");
        wrapping("5", "(cons n a)", 12).prints("a", "(11 10 9 8 7 6 5 4 3 2 1 0 . 5)");
    }

    /** "numbers and names as they are read, NIL as nil", "a CLOSURE #", "Behind all: 10". */
    private static void eachValue() {
        for (int number : new int[] {0, 1, 9, 10, 11, 99, 100, 999, 1000, 9999, 10000, 10001, 32767, -1, -9, -10, -100,
            -1000, -9999, -10000, -32768}) {
            Talk.fresh(Integer.toString(number), Integer.toString(number));
        }
        for (String name : new String[] {"a", "abcde", "-", "1-", "<", "+-*/<", "t", "quote", "zz"}) {
            Talk.fresh("'" + name, name);
        }
        Talk.fresh("nil", "nil");
        Talk.fresh("()", "nil");
        Talk.fresh("(fn(a b)1)", "#");
        Talk.fresh("''a", "(quote a)");
        Talk talk = new Talk(0);
        talk.said("(do(print 1)(print 'a)(print nil))", "1");
        Talk.due("a line each", talk.printed(), "1\na\nnil\n");
    }

    /** "if a last CDR is not NIL: space . space and that", "a VECTOR the same with [ and ] and no points". */
    private static void points() {
        Talk.fresh("(cons 1 2)", "(1 . 2)");
        Talk.fresh("(cons 1 nil)", "(1)");
        Talk.fresh("(cons nil nil)", "(nil)");
        Talk.fresh("(cons 1(cons 2 3))", "(1 2 . 3)");
        Talk.fresh("(cons(cons 1 2)3)", "((1 . 2) . 3)");
        Talk.fresh("(cons 1(fn()))", "(1 . #)");
        Talk.fresh("(cons 1 t)", "(1 . t)");
        Talk.fresh("(cons 1(vec 2 nil))", "(1 . [nil nil])");
        Talk.fresh("(vec 2(cons 1 2))", "[(1 . 2) (1 . 2)]");
        Talk.fresh("(vec 7 nil)", "[nil nil nil nil nil nil nil]");
        Talk.fresh("(vec 1(vec 0 0))", "[[]]");
        Talk.fresh("(list nil nil)", "(nil nil)");
    }
}
