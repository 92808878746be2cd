/** The operators at their edges; each test bears the sentence of the document that it is for. */
public final class OperatorEdgesTest {
    private static final String KIND = "UnsupportedOperationException";
    private static final String RANGE = "ArithmeticException";
    private static final String INDEX = "IndexOutOfBoundsException";
    private static final int[] EDGES = {-32768, -32767, -16385, -16384, -256, -182, -181, -2, -1, 0, 1, 2, 7, 128, 181,
        182, 255, 256, 16383, 16384, 32766, 32767};
    /** One value of each kind, in the order of their numbers. */
    private static final String[] VALUES = {"nil", "1", "'a", "(cons 1 2)", "(vec 2 1)", "(fn())"};

    public static void main(String[] args) {
        arithmetic();
        dividingByZero();
        bits();
        shifts();
        shiftsThatAreNone();
        lengthsOfVectors();
        indexes();
        otherKinds();
        otherKindsBeforeAllElse();
        whenAllAreEvaluated();
        partsOfNil();
        whatIsSame();
        theInput();
        Talk.end();
    }

    /** The number that a form comes to, or what it throws. */
    private static String number(String form) {
        Talk talk = new Talk(0);
        String answer = talk.say(form);
        return answer.equals("2") ? Talk.told(() -> talk.machine.number(1)) : answer;
    }

    private static String ranged(long number) {
        return number < -32768 || number > 32767 ? RANGE : Long.toString(number);
    }

    /** "(+ a b) (- a b) (* a b) (/ a b), cut towards 0: out of range ...: ArithmeticException". */
    private static void arithmetic() {
        for (int a : EDGES) {
            for (int b : EDGES) {
                String parts = " " + a + " " + b + ")";
                Talk.due("(+" + parts, number("(+" + parts), ranged((long) a + b));
                Talk.due("(-" + parts, number("(-" + parts), ranged((long) a - b));
                Talk.due("(*" + parts, number("(*" + parts), ranged((long) a * b));
                Talk.due("(/" + parts, number("(/" + parts), b == 0 ? RANGE : ranged((long) a / b));
                Talk.due("(<" + parts, new Talk(0).say("(<" + parts), a < b ? "3" : "1");
            }
        }
        Talk.due("cut towards 0", number("(/ -7 2)"), "-3");
        Talk.due("cut towards 0", number("(/ 7 -2)"), "-3");
        Talk.due("the last in range", number("(+ 32766 1)"), "32767");
        Talk.due("the first out of range", number("(+ 32767 1)"), RANGE);
        Talk.due("the last in range", number("(- -32767 1)"), "-32768");
        Talk.due("the first out of range", number("(- -32768 1)"), RANGE);
        Talk.due("out of range", number("(/ -32768 -1)"), RANGE);
    }

    /** "or b is 0: ArithmeticException", which is of the division alone. */
    private static void dividingByZero() {
        Talk.due("(/ 0 0)", number("(/ 0 0)"), RANGE);
        Talk.due("(/ 5 0)", number("(/ 5 0)"), RANGE);
        Talk.due("(/ 0 5)", number("(/ 0 5)"), "0");
        for (String operator : new String[] {"+", "-", "or", "xor", "sh"}) {
            Talk.due("(" + operator + " 5 0)", number("(" + operator + " 5 0)"), "5");
        }
        Talk.due("(* 5 0)", number("(* 5 0)"), "0");
        Talk.due("(and 5 0)", number("(and 5 0)"), "0");
    }

    /** "(and a b) (or a b) (xor a b), bit by bit". */
    private static void bits() {
        for (int a : EDGES) {
            for (int b : EDGES) {
                String parts = " " + a + " " + b + ")";
                Talk.due("(and" + parts, number("(and" + parts), Integer.toString(a & b));
                Talk.due("(or" + parts, number("(or" + parts), Integer.toString(a | b));
                Talk.due("(xor" + parts, number("(xor" + parts), Integer.toString(a ^ b));
            }
        }
    }

    /** "the 16 bits of a go n to the left, or -n to the right, others are 0; these 16 bits as a number again". */
    private static void shifts() {
        for (int a : EDGES) {
            for (int n = -15; n <= 15; n++) {
                StringBuilder bits = new StringBuilder();
                for (int bit = 15; bit >= 0; bit--) {
                    int from = bit - n;
                    bits.append(from < 0 || from > 15 ? 0 : (a + 65536) / (1 << from) % 2);
                }
                int want = Integer.parseInt(bits.toString(), 2);
                String form = "(sh " + a + " " + n + ")";
                Talk.due(form, number(form), Integer.toString(want > 32767 ? want - 65536 : want));
            }
        }
    }

    /** "n -15 .. 15", "n not as said: UnsupportedOperationException". */
    private static void shiftsThatAreNone() {
        for (int n : new int[] {16, -16, 17, -17, 31, 32, -32, 32767, -32768}) {
            Talk.due("(sh 1 " + n + ")", number("(sh 1 " + n + ")"), KIND);
            Talk.due("(sh 0 " + n + ")", number("(sh 0 " + n + ")"), KIND);
        }
        Talk.due("(sh 1 15)", number("(sh 1 15)"), "-32768");
        Talk.due("(sh -32768 -15)", number("(sh -32768 -15)"), "1");
    }

    /** "(vec n x): n 0 .. 7, a VECTOR of n times x", "n not as said: UnsupportedOperationException". */
    private static void lengthsOfVectors() {
        for (int n = 0; n <= 7; n++) {
            Talk talk = new Talk(0);
            talk.said("(vec " + n + " 'a)", "5");
            talk.counts(0, n + 1);
            Talk.due("length", Talk.told(() -> talk.machine.number(1)), Integer.toString(n));
            talk.prints("it", "[" + "a ".repeat(n).trim() + "]");
            Talk.due("len", number("(len(vec " + n + " 0))"), Integer.toString(n));
        }
        for (int n : new int[] {-1, 8, -8, 9, 255, 256, 32767, -32768}) {
            Talk talk = new Talk(0);
            talk.said("(vec " + n + " 'a)", KIND);
            talk.counts(0, 0);
        }
    }

    /** "(ref v i), (put v i x), x: i is not an index, from 0: IndexOutOfBoundsException". */
    private static void indexes() {
        for (int length = 0; length <= 7; length++) {
            for (int i : new int[] {-32768, -2, -1, 0, 1, 2, 3, 4, 5, 6, 7, 8, 32767}) {
                boolean isIndex = i >= 0 && i < length;
                Talk talk = new Talk(0);
                talk.said("(set v(vec " + length + " 4))", "5");
                talk.said("(ref v " + i + ")", isIndex ? "2" : INDEX);
                talk.said("(put v " + i + " 'b)", isIndex ? "3" : INDEX);
                StringBuilder want = new StringBuilder();
                for (int k = 0; k < length; k++) {
                    want.append(k == i ? "b " : "4 ");
                }
                talk.prints("v", "[" + want.toString().trim() + "]");
                talk.said("(ref v " + i + ")", isIndex ? "3" : INDEX);
            }
        }
    }

    /** Whether an operator takes a value of that kind at that place; the places' kinds are told as 1 to 6. */
    private static final String[][] NEEDS = {{"car", "14"}, {"cdr", "14"}, {"cons", "123456", "123456"},
        {"rca", "4", "123456"}, {"rcd", "4", "123456"}, {"atom", "123456"}, {"eq", "123456", "123456"}, {"+", "2", "2"},
        {"-", "2", "2"}, {"*", "2", "2"}, {"/", "2", "2"}, {"<", "2", "2"}, {"and", "2", "2"}, {"or", "2", "2"},
        {"xor", "2", "2"}, {"sh", "2", "2"}, {"vec", "2", "123456"}, {"ref", "5", "2"}, {"put", "5", "2", "123456"},
        {"len", "5"}, {"print", "123456"}, {"list", "123456", "123456", "123456", "123456"}};

    /** A form in which one part is of that kind and all others are as they should; with a sign printed last. */
    private static String formOf(String[] needs, int place, int kind) {
        StringBuilder form = new StringBuilder("(" + needs[0]);
        for (int i = 1; i < needs.length; i++) {
            int needed = needs[i].charAt(0) - '0';
            String value = VALUES[(i == place ? kind : needed) - 1];
            form.append(i == needs.length - 1 ? "(do(print 'z)" + value + ")" : " " + value);
        }
        return form.append(")").toString();
    }

    /** "A VALUE of another kind than needed ...: UnsupportedOperationException". */
    private static void otherKinds() {
        for (String[] needs : NEEDS) {
            for (int place = 1; place < needs.length; place++) {
                for (int kind = 1; kind <= 6; kind++) {
                    String form = formOf(needs, place, kind);
                    Talk talk = new Talk(127);
                    String answer = talk.say(form);
                    boolean isNeeded = needs[place].indexOf('0' + kind) >= 0;
                    Talk.due(form, answer.equals(KIND) ? KIND : answer.length() == 1 ? "a value" : answer,
                            isNeeded ? "a value" : KIND);
                    talk.counts(10, isNeeded ? 0 : 1);
                    // "when all parts are EVALUATED"
                    Talk.due("the last part of " + form, talk.printed().substring(0, 2), "z\n");
                }
            }
        }
    }

    /** What is no number is no index, no divisor and no length either. */
    private static void otherKindsBeforeAllElse() {
        Talk talk = new Talk(0);
        for (String form : new String[] {"(/ nil 0)", "(/ 0 nil)", "(ref nil 9)", "(ref(vec 1 1)nil)", "(put nil 9 1)",
            "(put(vec 1 1)'a 1)", "(sh nil 16)", "(+ 32767 t)", "(vec t 1)"}) {
            talk.said(form, KIND);
        }
    }

    /** "when all parts are EVALUATED": what fails in a part comes before. */
    private static void whenAllAreEvaluated() {
        Talk talk = new Talk(127);
        talk.said("(car nov)(+ nil nov)(+ nil(/ 1 0))", "NoSuchElementException NoSuchElementException " + RANGE);
        talk.said("(vec 8(car 1))(vec 8 nov)", KIND + " NoSuchElementException");
        talk.said("(put nil nil(/ 1 0))(ref nil(/ 1 0))", RANGE + " " + RANGE);
        talk.said("(+ nil(print 1))(vec 8(print 2))(put 1 2(print 3))", KIND + " " + KIND + " " + KIND);
        Talk.due("all are evaluated", talk.printed(), "1\n2\n3\n");
        talk.said("(list(print 1)(print 2)(print 3)(print 4))", "4");
        Talk.due("in their order", talk.printed(), "1\n2\n3\n4\n");
    }

    /** "(car a), (cdr a): of NIL: NIL", but NIL has no CAR that could be replaced. */
    private static void partsOfNil() {
        Talk talk = new Talk(0);
        talk.said("(car nil)(cdr nil)(car '())(car(car nil))(cdr(cdr '(1)))", "1 1 1 1 1");
        talk.said("(rca nil 1)(rcd nil 1)", KIND + " " + KIND);
        talk.said("(atom nil)(atom '())(atom '(nil))", "3 3 1");
    }

    /** "Two are the same if they are NIL, the same number or SYMBOL, or a CELL, VECTOR or CLOSURE that was made once." */
    private static void whatIsSame() {
        String[] same = {"nil ()", "1 1", "-32768 -32768", "'a 'a", "t 't", "c c", "v v", "f f", "q q", "(car k) c"};
        String[] others = {"nil 0", "1 2", "'a 'b", "0 'a", "3 't", "c k", "(cons 1 2)(cons 1 2)", "(vec 0 0)(vec 0 0)",
            "(fn())(fn())", "'(1)'(1)", "c v", "v f", "-1 1", "nil 't"};
        for (String pair : same) {
            samePair(pair, "3");
        }
        for (String pair : others) {
            samePair(pair, "1");
        }
        Talk talk = new Talk(0);
        talk.said("(set m(fn()(fn())))(eq(m)(m))(set m(fn()'(1)))(eq(m)(m))", "6 1 6 3");
    }

    private static void samePair(String pair, String want) {
        Talk talk = new Talk(0);
        talk.say("(do(set c(cons 1 2))(set k(cons c 2))(set v(vec 1 1))(set f(fn()))(set q '(1)))");
        talk.machine.collect();
        talk.said("(eq " + pair + ")", want);
        talk.machine.collect();
        talk.said("(eq " + pair + ")", want);
    }

    /** "(get): the oldest number of the INPUT is taken out; NIL without one." */
    private static void theInput() {
        Talk talk = new Talk(127);
        talk.said("(get)(get)", "1 1");
        talk.counts(8, 0);
        for (int round = 0; round < 3; round++) {
            for (int i = 1; i <= 8; i++) {
                talk.machine.give(i * 10 + round);
            }
            String four = "(list(get)(get)(get)(get))";
            talk.prints(four, "(10 20 30 40)".replace('0', (char) ('0' + round)));
            talk.counts(8, 4);
            talk.prints(four, "(50 60 70 80)".replace('0', (char) ('0' + round)));
            talk.counts(8, 0);
            talk.said("(get)", "1");
        }
    }
}
