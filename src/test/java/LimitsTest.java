/** The longest and deepest things that 512 calls can type: the class's rows must hold them, beside the model. */
public final class LimitsTest {
    public static void main(String[] args) {
        beside("(a)".repeat(170));
        beside("()".repeat(256));
        beside("(do" + "()".repeat(254) + ")");
        beside("(do" + "(a)".repeat(169) + ")");
        beside("(do" + "'a".repeat(254) + ")");
        beside("(do" + "''a".repeat(169) + ")");
        beside("(do" + "'''''''''''a".repeat(42) + ")");
        beside("(do" + "(if()())".repeat(63) + ")");
        beside("(do" + "(fn())".repeat(84) + ")");
        beside("(quote(" + "a ".repeat(250) + "))");
        beside("(" + "a".repeat(509) + ")");
        beside("(" + "0".repeat(509) + ")");
        beside("(do -" + "0".repeat(500) + "9)");
        beside("(set f(fn()(catch 1(catch 1(catch 1(catch 1(catch 1(catch 1(catch 1(catch 1(catch 1(f))))))))))))(f)");
        beside("(set f(fn()(f 1 2 3(f 1 2 3(f 1 2 3(f 1 2 3(f 1 2 3(f 1 2 3(f 1 2 3(f 1 2 3(f))))))))))(f)");
        String lists = "(list 1 2 3".repeat(9);
        beside("(set n 0)(set f(fn()(set n(+ n 1))" + lists + "(f)" + ")".repeat(9) + "))(f)(do n)");
        beside("(set f(fn(x)(if(< x 1)(throw 9 x)(catch x(catch x(list 1 2 3(f(- x 1))))))))(catch 9(f 29))(f 30)");
        beside("((fn(a)((fn(b)((fn(c)((fn(d)((fn(e)(list a b d e))5))4))3))2))1)");
        Talk.end();
    }

    private static void beside(String text) {
        TagMachine machine = new TagMachine(127);
        Model model = new Model(127);
        int calls = 0;
        for (int i = 0; i < text.length() && calls < 512; i++) {
            char c = text.charAt(i);
            calls++;
            Talk.due("character " + i + " of " + text, Talk.told(() -> machine.type(c)), told(() -> model.type(c)));
        }
        for (int what = 0; what <= 10 && calls < 512; what++) {
            int which = what;
            calls++;
            Talk.due("count(" + what + ") behind " + text, Talk.told(() -> machine.count(which)),
                    told(() -> model.count(which)));
        }
    }

    private static String told(Talk.Call call) {
        try {
            return Integer.toString(call.answer());
        } catch (Model.Fault e) {
            return e.name;
        }
    }
}
