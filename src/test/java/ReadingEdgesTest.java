/** READING at its edges; each test bears the sentence of the document that it is for. */
public final class ReadingEdgesTest {
    private static final String WRONG = "IllegalArgumentException";
    private static final String ATOMIC = "abcdefghijklmnopqrstuvwxyz0123456789+-*/<";
    /** All that can end an atom. */
    private static final String ENDS = "()' \n";
    /** Behind something that was dropped: outside atoms are passed over, ) is refused, the next form is run. */
    private static final String OUTSIDE = "ab 'abcdefg)(do 5)(quote zz)";

    public static void main(String[] args) {
        charactersThatAreNone();
        tenIsASpace();
        whatEndsAnAtom();
        numbersAndNames();
        numbersOutOfRange();
        longNames();
        theFortyFirst();
        twelveOpen();
        quotesThatEnd();
        closersOutside();
        closersBehindQuotes();
        emptyLists();
        passedOverOutside();
        symbolsAreNumbered();
        onlyTheOuterListIsRun();
        earlierFormsStay();
        Talk.end();
    }

    /** "A character of those said, else IllegalArgumentException (nothing is done)." */
    private static void charactersThatAreNone() {
        int[] none = {-1, 0, 9, 11, 13, 31, 33, 38, 44, 46, 58, 59, 61, 64, 65, 90, 91, 96, 123, 127, 128, 255,
            256 + 10, 256 + 40, 65536 + 97, -97, Integer.MIN_VALUE, Integer.MAX_VALUE};
        String[][] states = {{"", "(do 1)"}, {"ab", "c(do 2)"}, {"'", "(do 2)"}, {"(do", " 3)"},
            {"(quote a", "b)"}, {"(do 1", "2)"}, {"(do -", "2)"}, {"(do '", "a)"}, {"(do 'a", "b)"},
            {"(do '(a ", "b))"}, {"(do 7)", "(do it)"}, {"((((((((((((", "))))))))))))"}};
        for (String[] state : states) {
            for (int c : none) {
                Twins twins = new Twins(0);
                twins.both(state[0]);
                twins.onlyOne("type " + c, machine -> machine.type(c), WRONG);
                twins.alike(state[1]);
            }
        }
        String all = ENDS + ATOMIC;
        for (int i = 0; i < all.length(); i++) {
            char c = all.charAt(i);
            Talk talk = new Talk(0);
            talk.say("(quote ");
            Talk.due("type " + (int) c, talk.say(Character.toString(c)), c == ')' ? WRONG : "");
        }
    }

    /** "a space, 10 (as a space)". */
    private static void tenIsASpace() {
        String form = "(print '( a  b ' c 'd ( e ) ) )";
        String want = "(a b (quote c) (quote d) (e))\n";
        for (String text : new String[] {form, form.replace(' ', '\n'), form.replace("  ", " \n\n ")}) {
            Talk talk = new Talk(0);
            talk.said(text, "4");
            Talk.due(text, talk.printed(), want);
        }
    }

    /** "An ATOM goes on up to the next character that is not one of these." */
    private static void whatEndsAnAtom() {
        for (int i = 0; i < ATOMIC.length(); i++) {
            String name = "a" + ATOMIC.charAt(i) + "b";
            Talk talk = new Talk(0);
            talk.prints("'" + name, name);
            talk.counts(5, 5);
        }
        Talk.fresh("'(ab(cd)ef)", "(ab (cd) ef)");
        Talk.fresh("'(ab'cd)", "(ab (quote cd))");
        Talk.fresh("'(ab cd)", "(ab cd)");
        Talk.fresh("'(ab\ncd)", "(ab cd)");
        Talk.fresh("'ab", "ab");
        for (int i = 0; i < ENDS.length(); i++) {
            Talk talk = new Talk(0);
            talk.say("(ab");
            talk.counts(5, 3);
            talk.say(ENDS.substring(i, i + 1));
            talk.counts(5, 4);
        }
    }

    /** "Digits, also behind one -: a number; nil: NIL; else a SYMBOL." */
    private static void numbersAndNames() {
        String[][] atoms = {{"0", "2", "0"}, {"-0", "2", "0"}, {"00", "2", "0"}, {"-7", "2", "-7"},
            {"9", "2", "9"}, {"000000000009", "2", "9"}, {"-000032768", "2", "-32768"}, {"032767", "2", "32767"},
            {"-", "3", "-"}, {"--", "3", "--"}, {"--1", "3", "--1"}, {"1-", "3", "1-"}, {"1-1", "3", "1-1"},
            {"-1-", "3", "-1-"}, {"-1-1", "3", "-1-1"}, {"+1", "3", "+1"}, {"1a", "3", "1a"}, {"-a", "3", "-a"},
            {"a1", "3", "a1"}, {"-1a", "3", "-1a"}, {"/1", "3", "/1"}, {"nil", "1", "nil"}, {"ni", "3", "ni"},
            {"nill", "3", "nill"}, {"-nil", "3", "-nil"}, {"nil1", "3", "nil1"}, {"nal", "3", "nal"},
            {"nin", "3", "nin"}, {"mil", "3", "mil"}, {"t", "3", "t"}};
        for (String[] atom : atoms) {
            Talk talk = new Talk(0);
            talk.said("(quote " + atom[0] + ")", atom[1]);
            talk.counts(5, atom[1].equals("3") && !atom[0].equals("t") ? 4 : 3);
            talk.prints("it", atom[2]);
        }
    }

    /** Before the last character nothing is thrown; behind it the machine is as if canceled before it. */
    private static void dropped(String before, char last) {
        Twins twins = new Twins(0);
        twins.both("(do(print 3)7)");
        twins.both(before);
        twins.onlyOne("type " + last, machine -> machine.type(last), WRONG);
        twins.onlyOtherCancels();
        twins.alike(OUTSIDE);
    }

    private static void droppedByAnyEnd(String before) {
        for (int i = 0; i < ENDS.length(); i++) {
            dropped(before, ENDS.charAt(i));
            dropped("(xx '(yy " + before, ENDS.charAt(i));
            dropped("(xx '" + before.substring(1), ENDS.charAt(i));
        }
        Talk talk = new Talk(0);
        talk.said(before, "");
        Talk.due("cancel behind " + before, Talk.told(() -> talk.machine.cancel()), "1");
        talk.counts(5, 3);
    }

    /** "What can't be read: a number out of range". */
    private static void numbersOutOfRange() {
        for (String good : new String[] {"32767", "-32768", "0032767", "-0032768", "32766", "-32767"}) {
            Talk talk = new Talk(0);
            talk.said("(quote " + good + ")", "2");
            Talk.due(good, Talk.told(() -> talk.machine.number(1)), Integer.toString(Integer.parseInt(good)));
        }
        String[] wrong = {"32768", "-32769", "0032768", "-0032769", "65535", "65536", "-65536", "99999", "327670",
            "2147483647", "2147483648", "4294967295", "4294967296", "-4294967296", "18446744073709551616"};
        for (String number : wrong) {
            droppedByAnyEnd("(" + number);
        }
    }

    /** "a SYMBOL of more than 5 characters ... (both found when the ATOM has ended)". */
    private static void longNames() {
        for (String name : new String[] {"abcde", "12-45", "-123a", "-----", "zzzzz", "quote"}) {
            Talk talk = new Talk(0);
            talk.said("(quote " + name + ")", "3");
            talk.prints("it", name);
        }
        String[] wrong = {"abcdef", "12345-", "-1234a", "------", "quotes", "nilnil", "abcdefghijklmnopqrstuvw"};
        for (String name : wrong) {
            droppedByAnyEnd("(" + name);
        }
    }

    /** 37 names, which with the first three are all that can be. */
    private static String allNames() {
        StringBuilder names = new StringBuilder();
        for (int i = 3; i < 40; i++) {
            names.append(" s").append(i);
        }
        return names.toString();
    }

    /** "a 41st SYMBOL (both found when the ATOM has ended)". */
    private static void theFortyFirst() {
        Talk full = new Talk(0);
        full.said("(quote(" + allNames() + "))", "4");
        full.counts(5, 40);
        full.said("(quote s39)", "3");
        Talk.due("number of the 40th", Talk.told(() -> full.machine.number(1)), "39");
        full.said("(quote new", "");
        full.counts(6, 1);
        full.said(")", WRONG);
        full.counts(5, 40);
        full.counts(6, 0);
        full.said("(quote(s3 1 nil t))(quote s39)", "4 3");
        Talk.due("kind of the 40th", Talk.told(() -> full.machine.kind(39)), "0");
        Talk.due("kind of a 41st", Talk.told(() -> full.machine.kind(40)), WRONG);
        Talk.due("number of a 41st", Talk.told(() -> full.machine.number(40)), WRONG);
        for (int i = 0; i < ENDS.length(); i++) {
            char last = ENDS.charAt(i);
            Twins twins = new Twins(0);
            twins.both("(quote(" + allNames() + "))(s3 new");
            twins.onlyOne("type " + last, machine -> machine.type(last), WRONG);
            twins.onlyOtherCancels();
            twins.alike("a)('s5)");
        }
    }

    /** "more than 12 ( and ' open at a time". */
    private static void twelveOpen() {
        String[] openers = {"(((((((((((((", "(''''''''''''", "(((((((((((('", "('('('('('('(", "(a (b '(c '('('('''"};
        for (String opener : openers) {
            String most = opener.substring(0, opener.length() - 1);
            Talk talk = new Talk(0);
            talk.said(most, "");
            talk.counts(6, 12);
            Talk.due("cancel", Talk.told(() -> talk.machine.cancel()), "12");
            dropped(most, '(');
            dropped(most, '\'');
        }
        Talk.fresh("'((((((((((1))))))))))", "((((((((*))))))))");
        Talk ends = new Talk(0);
        ends.said("((((((((((((1))))))))))))", "UnsupportedOperationException");
        ends.said("(do(do(do(do(do(do(do(do(do(do(do(do 1))))))))))))", "2");
        ends.counts(3, 13);
        ends.said("(do(do(do(do(do(do(do(do(do(do(do 'a)))))))))))", "3");
        ends.said("(do'''''''''''a)", "4");
        // the atom that the 13th one ends has been read: it is a SYMBOL, and SYMBOLS stay
        Talk talk = new Talk(0);
        talk.said("((((((((((((ab(", WRONG);
        talk.counts(5, 4);
        talk.counts(6, 0);
    }

    /** "(a ' is open until what it quotes has ended)". */
    private static void quotesThatEnd() {
        String eleven = "(((((((((((";
        opens(eleven + "'", 12);
        opens(eleven + "'\n ", 12);
        opens(eleven + "'a", 12);
        opens(eleven + "'a ", 11);
        opens(eleven + "'a\n", 11);
        opens(eleven + "'a(", 12);
        opens(eleven + "'a'", 12);
        opens(eleven + "'a)", 10);
        opens(eleven + "'a'b'c'd(", 12);
        opens("((((((((('(a b", 11);
        opens("((((((((('(a b)", 9);
        opens("((((((((('''", 12);
        opens("((((((((('''a", 12);
        opens("((((((((('''a ", 9);
        opens("((((((((('('(", 13);
        opens("('()", 1);
        opens("('('a", 4);
        opens("('('a ", 3);
        opens("('('a)", 1);
    }

    private static void opens(String text, int want) {
        Talk talk = new Talk(0);
        talk.said(text, want > 12 ? WRONG : "");
        talk.counts(6, want > 12 ? 0 : want);
    }

    /** "a ) outside". */
    private static void closersOutside() {
        dropped("", ')');
        dropped("ab", ')');
        dropped("abcdefgh", ')');
        dropped("99999", ')');
        dropped("'", ')');
        dropped(" \n", ')');
        Talk talk = new Talk(0);
        talk.said("(do 1))(do 2)", "2 " + WRONG + " 2");
        talk.said("))", WRONG + " " + WRONG);
    }

    /** "or just behind a '". */
    private static void closersBehindQuotes() {
        for (String before : new String[] {"('", "(xx '", "(xx ''", "(xx(yy '", "(''", "(xx '(yy)'", "(' ", "('\n"}) {
            dropped(before, ')');
        }
        Talk talk = new Talk(0);
        talk.said("(do 'a)(do '())(do ' 1)(do '(a))", "3 1 2 4");
    }

    /** "() is NIL". */
    private static void emptyLists() {
        Talk talk = new Talk(0);
        talk.said("()", "1");
        talk.counts(3, 1);
        talk.said("( )", "1");
        talk.said("(\n)", "1");
        talk.prints("(list () '() nil)", "(nil nil nil)");
        talk.prints("(eq () nil)", "t");
    }

    /** "Outside of all parentheses ATOMS and ' are passed over." */
    private static void passedOverOutside() {
        String[] texts = {"a ", "abcdefghijk ", "99999 ", "-99999\n", "nil ", "' ", "''''''''''''' ", "'a 'b'c ", "+ "};
        for (String text : texts) {
            Twins twins = new Twins(0);
            twins.onlyOneHears(text, "");
            twins.alike("(quote a)");
            Talk talk = new Talk(0);
            talk.said(text.trim() + "(do 1)" + text.trim() + "(do 'a)" + text, "2 3");
            talk.counts(5, 5);
            talk.counts(6, 0);
        }
        Talk many = new Talk(0);
        many.said("(quote(" + allNames() + "))new 'newer (quote s3)new", "4 3");
        many.counts(5, 40);
    }

    /** "SYMBOLS are numbered as they are first read, behind t 0, it 1, quote 2". */
    private static void symbolsAreNumbered() {
        String[] names = {"t", "it", "quote", "do", "b", "a"};
        Talk talk = new Talk(0);
        talk.said("(do b a b)", "NoSuchElementException");
        for (int i = 0; i < names.length; i++) {
            int number = i;
            talk.said("(do '" + names[i] + ")", "3");
            Talk.due("number of " + names[number], Talk.told(() -> talk.machine.number(1)), Integer.toString(number));
        }
        talk.counts(5, 6);
        // SYMBOLS stay when what was read is dropped, by each way to drop it
        talk.said("(c d 40000)", WRONG);
        talk.counts(5, 8);
        talk.said("(e f')", WRONG);
        talk.counts(5, 10);
        talk.said("(g h i", "");
        talk.counts(5, 12);
        talk.machine.cancel();
        talk.counts(5, 12);
        talk.said("(quote d)", "3");
        Talk.due("number of d", Talk.told(() -> talk.machine.number(1)), "7");
        talk.said("(if j)", WRONG);
        talk.counts(5, 14);
    }

    /** "When a list that stands outside closes, it is a FORM: it is RUN." */
    private static void onlyTheOuterListIsRun() {
        Talk talk = new Talk(0);
        talk.said("(do(print 1)(do(print 2)))", "2");
        Talk.due("each once", talk.printed(), "1\n2\n");
        talk.said("(do(print 3)", "");
        talk.counts(7, 0);
        talk.counts(9, 1);
        talk.said(")", "2");
        talk.counts(9, 2);
    }

    /** "all that was read of the FORM ... is dropped": of this one alone, the CELLS of those before it stay. */
    private static void earlierFormsStay() {
        String[] droppings = {"(9 8 7 6 99999)", "(9 8(7 6 abcdef)", "(9 8 7')", "(9 8 7((((((((((((", ")"};
        for (String dropping : droppings) {
            Talk talk = new Talk(0);
            talk.said("(set a '(1(2)3))(set f(fn(x)'(4 5)))", "4 6");
            talk.said(dropping, WRONG);
            talk.said("(quote(6 7 8 9(1 2 3 4)5 6 7 8 9 1 2 3 4))", "4");
            talk.prints("(cons a(f 0))", "((1 (2) 3) 4 5)");
        }
        Talk talk = new Talk(0);
        talk.said("(set a '(1(2)3))(9 8(7", "4");
        talk.machine.cancel();
        talk.said("(quote(6 7 8 9(1 2 3 4)5 6 7 8 9 1 2 3 4))", "4");
        talk.prints("a", "(1 (2) 3)");
    }
}
