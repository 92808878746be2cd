/** WORDS and COLLECTION at their edges; each test bears the sentence of the document that it is for. */
public final class WordEdgesTest {
    private static final String STATE = "IllegalStateException";
    private static final int SIZE = 40;
    /** Two closures, which are used to make frames. */
    private static final String CLOSURES = "(do(set g(fn()1))(set h(fn(p q r s)1))0)";
    private static final int OF_CLOSURES = 4;
    private static final String[] MAKERS = {"(vec 0 0)", "(cons 1 2)", "(list 1)", "(vec 1 0)", "(fn())",
        "(fn(p q r s)1)", "(g)", "(list 1 2)", "(list 1 2 3)", "(h 1 2 3 4)", "(list 1 2 3 4)", "(vec 7 0)"};
    private static final int[] WORDS = {1, 2, 2, 2, 2, 2, 2, 4, 6, 6, 8, 8};

    public static void main(String[] args) {
        for (int i = 0; i < MAKERS.length; i++) {
            fits(MAKERS[i], WORDS[i]);
            fitsByCollection(MAKERS[i], WORDS[i]);
            fitsBehindCollection(MAKERS[i], WORDS[i]);
            doesNotFit(MAKERS[i], WORDS[i]);
            doesNotFitBehindCollection(MAKERS[i], WORDS[i]);
        }
        nothingIsMade();
        whatWasRead();
        partsStayLive();
        valuesStayWhole();
        tagsStayTheSame();
        framesStay();
        repliesOfCollect();
        latestCollection();
        nothingGoesOnBehindAFault();
        Talk.end();
    }

    /** A form that makes so many words that nothing holds. */
    private static String dead(int words) {
        StringBuilder form = new StringBuilder("(do");
        for (int rest = words; rest > 0; rest -= 8) {
            form.append("(vec ").append(Math.min(rest, 8) - 1).append(" 0)");
        }
        return form.append(" 0)").toString();
    }

    /** A form that makes so many words that symbols hold. */
    private static String live(int words) {
        StringBuilder form = new StringBuilder("(do");
        char name = 'a';
        for (int rest = words; rest > 0; rest -= 8) {
            form.append("(set ").append(name).append("(vec ").append(Math.min(rest, 8) - 1).append(" 0))");
            name++;
        }
        return form.append(" 0)").toString();
    }

    private static Talk filled(int live, int dead) {
        Talk talk = new Talk(0);
        talk.said(CLOSURES + live(live - OF_CLOSURES) + dead(dead), "2 2 2");
        talk.counts(0, live + dead);
        talk.counts(1, 0);
        return talk;
    }

    private static void words(Talk talk, int used, int collections, int usedAfter) {
        talk.counts(0, used);
        talk.counts(1, collections);
        talk.counts(2, usedAfter);
    }

    private static String succeeds(Talk talk, String maker) {
        return talk.say(maker).length() == 1 ? "a value" : "a fault";
    }

    /** "To make n: USED + n is above SIZE: COLLECTION": up to SIZE there is none, "Then USED is n more". */
    private static void fits(String maker, int n) {
        Talk talk = filled(OF_CLOSURES, SIZE - n - OF_CLOSURES);
        Talk.due(maker, succeeds(talk, maker), "a value");
        words(talk, SIZE, 0, 0);
        talk = filled(SIZE - n, 0);
        Talk.due(maker, succeeds(talk, maker), "a value");
        words(talk, SIZE, 0, 0);
    }

    /** One word more, and there is one: "USED is the WORDS of all that is LIVE". */
    private static void fitsByCollection(String maker, int n) {
        Talk talk = filled(OF_CLOSURES, SIZE - n - OF_CLOSURES + 1);
        Talk.due(maker, succeeds(talk, maker), "a value");
        words(talk, OF_CLOSURES + n, 1, OF_CLOSURES);
    }

    /** What is left behind it is just enough. */
    private static void fitsBehindCollection(String maker, int n) {
        Talk talk = filled(SIZE - n, n);
        Talk.due(maker, succeeds(talk, maker), "a value");
        words(talk, SIZE, 1, SIZE - n);
        Talk one = filled(SIZE - n, 1);
        Talk.due(maker, succeeds(one, maker), "a value");
        words(one, SIZE, 1, SIZE - n);
    }

    /** "still so: IllegalStateException". */
    private static void doesNotFit(String maker, int n) {
        Talk talk = filled(SIZE - n + 1, 0);
        talk.said(maker, STATE);
        words(talk, SIZE - n + 1, 1, SIZE - n + 1);
        talk.counts(4, 0);
        talk.counts(9, 3);
        talk.counts(10, 1);
        talk.said(maker, STATE);
        words(talk, SIZE - n + 1, 2, SIZE - n + 1);
        Talk.due("it", Talk.told(() -> talk.machine.number(1)), "0");
        talk.said("(do(set a 0)0)", "2");
        Talk.due(maker, succeeds(talk, maker), "a value");
    }

    private static void doesNotFitBehindCollection(String maker, int n) {
        if (n > 1) {
            Talk talk = filled(SIZE - n + 1, n - 1);
            talk.said(maker, STATE);
            words(talk, SIZE - n + 1, 1, SIZE - n + 1);
        }
    }

    /** (list) and (do) make nothing, so even a full heap is enough. */
    private static void nothingIsMade() {
        Talk talk = filled(SIZE, 0);
        for (String form : new String[] {"(list)", "(do)", "(+ 1 2)", "(rca '(1) 2)", "(put a 0 1)", "(catch 1 2)",
            "(catch 1(throw 1 2))", "(car '(1))", "(print 1)", "(eq a a)", "(set z 'a)", "(while nil)", "(get)"}) {
            Talk.due(form, succeeds(talk, form), "a value");
        }
        words(talk, SIZE, 0, 0);
    }

    /** "CELLS that were read none". */
    private static void whatWasRead() {
        Talk talk = filled(SIZE, 0);
        talk.said("(set z '(1(2)3 4 5 6 7 8 9 10 11 12 13 14 15 16 17 18 19 20 21 22))", "4");
        words(talk, SIZE, 0, 0);
        talk.said("(do(rca z(ref a 0))0)", "2");
        Talk.due("collect", Talk.told(() -> talk.machine.collect()), Integer.toString(SIZE));
        // what a CELL that was read has got is LIVE, also when nothing else leads to that CELL
        Talk lost = new Talk(0);
        lost.said("(do(rca '(1)(cons 1 2))(rcd '(1)(vec 0 0))0)", "2");
        Talk.due("collect", Talk.told(() -> lost.machine.collect()), "3");
    }

    /** "parts of operators, throws and CALLS that go on and were EVALUATED (... still when something is made for them)". */
    private static void partsStayLive() {
        String fill = "(vec 7 0)".repeat(5);
        String[][] forms = {{"(list(cons 1 2)(do " + fill + "3)(cons 4 5))", "((1 . 2) 3 (4 . 5))"},
            {"(cons(list 1 2)(do " + fill + "(list 3 4)))", "((1 2) 3 4)"},
            {"(catch 1(throw(do 1)(do(cons 1 2)" + fill + "(cons 3 4))))", "(3 . 4)"},
            {"(rcd(cons 1 2)(do " + fill + "(cons 3 4)))", "(1 3 . 4)"},
            {"(put(vec 2 1)1(do " + fill + "(cons 3 4)))", "(3 . 4)"},
            {"((fn(x y)(list x y))(cons 1 2)(do " + fill + "(cons 3 4)))", "((1 . 2) (3 . 4))"},
            {"((fn(x y)" + fill + "(list y x))(cons 1 2)(cons 3 4))", "((3 . 4) (1 . 2))"},
            {"(vec 2(cons(vec 5 1)(do " + fill + "(vec 2 2))))", "[([1 1 1 1 1] . [2 2]) ([1 1 1 1 1] . [2 2])]"}};
        for (String[] form : forms) {
            Talk talk = new Talk(0);
            talk.prints(form[0], form[1]);
            Talk.due("a collection in " + form[0], Boolean.toString(talk.machine.count(1) > 0), "true");
        }
        // "no more when the body of a CALL is EVALUATED": the list is lost as soon as x is set
        Talk talk = new Talk(0);
        talk.said("((fn(x)(set x 0)" + "(vec 7 0)".repeat(3) + "(vec 6 0)0)(list 1 2 3 4))", "2");
        talk.counts(1, 1);
        talk.counts(2, 3);
    }

    /** A COLLECTION changes no VALUE, and what was the same stays so. */
    private static void valuesStayWhole() {
        Talk talk = new Talk(0);
        talk.said("(do(set a(list 1 'b nil))(set b(vec 3 a))(put b 1 b)(set c(cons a b))(rcd a c)0)", "2");
        talk.machine.collect();
        talk.counts(0, 8);
        talk.machine.collect();
        talk.said("(do(vec 7 0)(vec 7 0)(vec 7 0)(vec 7 0)0)", "2");
        talk.said("(eq a(ref b 0))(eq b(ref b 1))(eq(cdr a)c)(eq(car c)a)(eq(cdr c)b)", "3 3 3 3 3");
        talk.prints("(list(car a)(len b))", "(1 3)");
        Talk cycle = new Talk(0);
        cycle.said("(set a(list 1))(rcd a a)(rca a a)", "4 4 4");
        Talk.due("collect", Talk.told(() -> cycle.machine.collect()), "2");
        cycle.said("(set b(cdr(car(cdr a))))(eq a b)", "4 3");
        Talk.due("collect", Talk.told(() -> cycle.machine.collect()), "2");
    }

    /** "TAGS of a catch that goes on", which are found again behind a COLLECTION. */
    private static void tagsStayTheSame() {
        String fill = "(vec 7 0)".repeat(5);
        Talk talk = new Talk(0);
        talk.prints("(catch(set c(cons 1 2))" + fill + "(throw c 5))", "5");
        talk.prints("(catch(set c(vec 1 1))(catch(cons 1 2)" + fill + "(throw c 6)))", "6");
        talk.prints("(catch(set c(fn()1))(list 1(list 2(do " + fill + "(throw c 7)))))", "7");
        Talk alone = new Talk(0);
        alone.said("(do(catch(list 1 2 3)" + "(vec 7 0)".repeat(4) + "(vec 1 0)(vec 0 0))0)", "2");
        words(alone, 7, 1, 6);
        Talk ended = new Talk(0);
        ended.said("(do(catch(list 1 2 3))" + "(vec 7 0)".repeat(4) + "(vec 1 0)(vec 0 0)0)", "2");
        words(ended, 1, 1, 0);
    }

    /** "FRAMES of CALLS that go on", "FRAMES of CLOSURES and FRAMES around FRAMES". */
    private static void framesStay() {
        String fill = "(vec 7 0)".repeat(4);
        Talk talk = new Talk(0);
        talk.said("(set m(fn(x)(fn(y)(fn()(list x y)))))(set k((m(cons 1 2))(vec 1 3)))", "6 6");
        talk.said("(set m nil)", "1");
        Talk.due("collect", Talk.told(() -> talk.machine.collect()), Integer.toString(2 + 3 + 3 + 2 + 2));
        talk.said("(do " + fill + "0)", "2");
        talk.prints("(k)", "((1 . 2) [3])");
        talk.said("(set k nil)", "1");
        Talk.due("collect", Talk.told(() -> talk.machine.collect()), "0");
        Talk deep = new Talk(0);
        deep.said("(set w(fn(n)(if(< n 1)(do " + fill + "n)(cons n(w(- n 1))))))", "6");
        deep.prints("(w 3)", "(3 2 1 . 0)");
        Talk.due("a collection", Boolean.toString(deep.machine.count(1) > 0), "true");
    }

    /** "A COLLECTION. Answers USED." */
    private static void repliesOfCollect() {
        Talk talk = new Talk(0);
        for (int i = 1; i <= 3; i++) {
            Talk.due("collect", Talk.told(() -> talk.machine.collect()), "0");
            words(talk, 0, i, 0);
        }
        talk.said("(list 1 2 3 4)", "4");
        words(talk, 8, 3, 0);
        Talk.due("collect", Talk.told(() -> talk.machine.collect()), "8");
        words(talk, 8, 4, 8);
        talk.said("(set a(cdr it))(do '(x(y", "4");
        Talk.due("collect", Talk.told(() -> talk.machine.collect()), "6");
        talk.said(" z)))", "4");
        Talk.due("collect", Talk.told(() -> talk.machine.collect()), "6");
        talk.said("(set a nil)", "1");
        Talk.due("collect", Talk.told(() -> talk.machine.collect()), "0");
        Talk full = filled(SIZE, 0);
        Talk.due("collect", Talk.told(() -> full.machine.collect()), Integer.toString(SIZE));
    }

    /** "1 COLLECTIONS, 2 USED after the latest one". */
    private static void latestCollection() {
        Talk talk = filled(SIZE - 8, 8);
        talk.said("(vec 0 0)", "5");
        words(talk, SIZE - 7, 1, SIZE - 8);
        talk.said("(do(cons 1 2)0)", "2");
        words(talk, SIZE - 5, 1, SIZE - 8);
        Talk.due("collect", Talk.told(() -> talk.machine.collect()), Integer.toString(SIZE - 8));
        talk.said("(vec 7 0)(vec 0 0)", "5 " + STATE);
        words(talk, SIZE, 3, SIZE);
    }

    /** "nothing goes on then": no part, TAG or FRAME of a FORM that failed is LIVE. */
    private static void nothingGoesOnBehindAFault() {
        String[] forms = {"(catch(cons 1 2)(car 5))", "(catch(cons 1 2)(catch(vec 3 1)(car 5)))", "(list(cons 1 2)(car 5))",
            "((fn(x)(car 5))(cons 1 2))", "((fn(x)(list x(catch x((fn(y)(car 5))x))))(list 1 2))",
            "(throw(cons 1 2)(cons 3 4))", "(car(vec 3 1))", "(5(cons 1 2))", "((fn(x)(while 1))(cons 1 2))"};
        for (String form : forms) {
            Talk talk = new Talk(0);
            talk.said(form, form.contains("throw") ? "NoSuchElementException" : form.contains("while") ? STATE
                    : "UnsupportedOperationException");
            Talk.due("collect behind " + form, Talk.told(() -> talk.machine.collect()), "0");
        }
    }
}
