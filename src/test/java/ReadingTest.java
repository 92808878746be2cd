/** Promise 2, READING: which characters are read, and how. */
public final class ReadingTest {
    public static void main(String[] args) {
        characters();
        atoms();
        lists();
        outside();
        openOnes();
        unreadable();
        symbolsStay();
        Talk.end();
    }

    private static void characters() {
        String good = "()' \nabcdefghijklmnopqrstuvwxyz0123456789+-*/<";
        for (int c = -3; c < 300; c++) {
            int character = c;
            boolean isGood = c >= 0 && good.indexOf(c) >= 0;
            Talk talk = new Talk(0);
            talk.say("(");
            String got = Talk.told(() -> talk.machine.type(character));
            Talk.due("type(" + c + ")", got, c == ')' ? "1" : isGood ? "0" : "IllegalArgumentException");
            talk.counts(6, c == ')' ? 0 : c == '(' || c == '\'' ? 2 : 1);
        }
        for (int c : new int[] {Integer.MIN_VALUE, Integer.MAX_VALUE, 65536 + 'a', -'a'}) {
            Talk.due("type(" + c + ")", Talk.told(() -> new TagMachine(0).type(c)), "IllegalArgumentException");
        }
        Talk talk = new Talk(0);
        talk.said("(print 'a.b)", "IllegalArgumentException 3");
        Talk.due("a wrong character does not end an atom", talk.printed(), "ab\n");
    }

    private static void atoms() {
        Talk talk = new Talk(0);
        talk.prints("'(0 7 -1 -0 007 -007 32767 -32768)", "(0 7 -1 0 7 -7 32767 -32768)");
        talk.prints("'(- -- --1 1- 1a -a + +1 1+ a-b / < nil nill ni)",
                "(- -- --1 1- 1a -a + +1 1+ a-b / < nil nill ni)");
        talk.prints("'(nil)", "(nil)");
        talk.prints("(atom nil)", "t");
        talk.said("(quote nil)(quote -)(quote -1)(quote 1-)", "1 3 2 3");
        Talk.fresh("'0000000000000000000000000000000000000000000000012", "12");
        talk = new Talk(0);
        talk.said("(quote 32768)(quote -32769)", "IllegalArgumentException IllegalArgumentException");
        talk.said("(quote 99999999999999999999999999999)", "IllegalArgumentException");
        talk.said("(quote 4294967297)", "IllegalArgumentException");
        talk.said("(quote abcde)(quote abcdef)", "3 IllegalArgumentException");
        talk.said("(quote -1234a)", "IllegalArgumentException");
    }

    private static void lists() {
        Talk talk = new Talk(0);
        talk.prints("'(a(b c)()d)", "(a (b c) nil d)");
        talk.prints("''a", "(quote a)");
        talk.prints("'('a ' b '(c) '())", "((quote a) (quote b) (quote (c)) (quote nil))");
        talk.prints("(quote\n(a\nb))", "(a b)");
        talk.prints("'''a", "(quote (quote a))");
        talk.prints("'(a'b'c)", "(a (quote b) (quote c))");
        talk.said("()", "1");
        talk.counts(3, 1);
        talk.said("(   )", "1");
        talk.said("(do)", "1");
    }

    private static void outside() {
        Talk talk = new Talk(0);
        talk.said("x 99999 abcdefgh ' '' nil", "");
        talk.counts(5, 3);
        talk.counts(6, 0);
        talk.said("abc(quote x)", "3");
        talk.said("'(quote x)", "3");
        talk.said("5(quote 5)5", "2");
        talk.counts(5, 4);
    }

    private static void openOnes() {
        Talk talk = new Talk(0);
        talk.say("('a");
        talk.counts(6, 2);
        talk.say(" ");
        talk.counts(6, 1);
        talk.say("''(");
        talk.counts(6, 4);
        talk.say("b");
        talk.counts(6, 4);
        talk.say(")");
        talk.counts(6, 1);
        talk.say("'");
        talk.say(" \n ");
        talk.counts(6, 2);
        talk.machine.cancel();
        talk.said("(((((((((((('", "IllegalArgumentException");
        talk.counts(6, 0);
        talk.said("(((((((((((((", "IllegalArgumentException");
        talk.said("((((((((((('a(", "");
        talk.counts(6, 12);
        talk.said("(", "IllegalArgumentException");
        talk.counts(6, 0);
        talk.said("('''''''''''", "");
        talk.counts(6, 12);
        talk.said("'", "IllegalArgumentException");
        talk.said("((((((((((((1))))))))))))", "UnsupportedOperationException");
    }

    private static void unreadable() {
        Talk talk = new Talk(0);
        talk.said(")", "IllegalArgumentException");
        talk.said("a)", "IllegalArgumentException");
        talk.said("(')", "IllegalArgumentException");
        talk.counts(6, 0);
        talk.said("(' )", "IllegalArgumentException");
        talk.said("((a)('')", "IllegalArgumentException");
        talk.counts(6, 0);
        talk.said("(do 40000(print 1)", "IllegalArgumentException IllegalArgumentException");
        talk.said("(do(print 1)40000 ", "IllegalArgumentException");
        talk.said("(do(print 1)40000)", "IllegalArgumentException");
        talk.said("(do 40000'(print 2)", "IllegalArgumentException 2");
        Talk.due("what is dropped is not run", talk.printed(), "2\n");
        talk.counts(9, 1);
        talk.counts(10, 0);
    }

    private static void symbolsStay() {
        Talk talk = new Talk(0);
        talk.said("(xa xb 40000 (quote xb)", "IllegalArgumentException 3");
        talk.counts(5, 5);
        Talk.due("number of xb", Integer.toString(talk.machine.number(1)), "4");
        talk.say("(((((((((((zz(");
        talk.counts(5, 6);
        talk.machine.cancel();
        Talk full = new Talk(0);
        for (int i = 3; i < 40; i++) {
            full.said("(quote a" + i + ")", "3");
        }
        full.counts(5, 40);
        full.said("(quote b)", "IllegalArgumentException");
        full.said("(quote a39)", "3");
        Talk.due("number of a39", Integer.toString(full.machine.number(1)), "39");
        full.counts(5, 40);
        full.said("(quote b5 (quote 5)", "IllegalArgumentException 2");
    }
}
