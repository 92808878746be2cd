import java.util.Random;

/** All promises: the class and the plain model answer the same on runs of calls made up from fixed seeds. */
public final class ModelTest {
    private static final int RUNS = 4000;
    private static final String[] NAMES = {"a", "b", "c", "f", "g", "x", "y", "it", "t", "quote", "car"};
    private static final String[] TWO = {"cons", "rca", "rcd", "eq", "+", "-", "*", "/", "<", "and", "or", "xor", "sh",
        "vec", "ref", "throw"};
    private static final String[] ONE = {"car", "cdr", "atom", "len", "print"};

    private final Random random;
    private final TagMachine machine;
    private final Model model;
    private final StringBuilder story = new StringBuilder();
    private int left = 512;
    private boolean isSame = true;

    private ModelTest(long seed) {
        random = new Random(seed);
        int size = random.nextInt(3) == 0 ? random.nextInt() : random.nextInt(40);
        machine = new TagMachine(size);
        model = new Model(size);
        story.append("seed ").append(seed).append(" size ").append(size).append(": ");
    }

    public static void main(String[] args) {
        int wrong = 0;
        int runs = args.length > 0 ? Integer.parseInt(args[0]) : RUNS;
        for (int seed = 0; seed < runs && wrong < 5; seed++) {
            ModelTest test = new ModelTest(seed);
            test.play();
            if (!test.isSame) {
                wrong++;
                System.out.println(test.story);
            }
        }
        System.out.println(runs + " runs beside the model, " + wrong + " of them wrong");
        if (wrong != 0) {
            System.exit(1);
        }
    }

    private void play() {
        if (random.nextInt(4) > 0) {
            type("(do(set a 1)(set b'(1 2))(set c nil)(set f(fn(x)x))(set x 3)(set y(vec 3 1))(set g(fn(x y)(cons x y))))");
        }
        while (left > 0 && isSame) {
            if (left == 11) {
                countAll();
                return;
            }
            int choice = random.nextInt(12);
            if (choice < 6) {
                type(form(1 + random.nextInt(7)));
            } else if (choice == 6) {
                type(usual());
            } else if (choice == 7) {
                type(noise());
            } else {
                other();
            }
        }
    }

    private void countAll() {
        for (int i = 0; i <= 10; i++) {
            int what = i;
            compare("count " + what, () -> machine.count(what), () -> model.count(what));
        }
    }

    private interface Call {
        int answer();
    }

    private static String told(Call call) {
        try {
            return Integer.toString(call.answer());
        } catch (Model.Fault e) {
            return e.name;
        } catch (RuntimeException e) {
            return "/ by zero".equals(e.getMessage()) ? "the machine's own" : e.getClass().getSimpleName();
        }
    }

    private void compare(String name, Call ofMachine, Call ofModel) {
        // the last calls are for the counts
        if (left == 0 || !isSame || left == 11 && !name.startsWith("count")) {
            return;
        }
        left--;
        String got = told(ofMachine);
        String want = told(ofModel);
        story.append(name);
        if (!got.equals("0")) {
            story.append(" -> ").append(got).append('\n');
        }
        if (!got.equals(want)) {
            isSame = false;
            story.append("; due is ").append(want);
        }
    }

    private void type(String text) {
        for (int i = 0; i < text.length(); i++) {
            char c = text.charAt(i);
            compare(Character.toString(c), () -> machine.type(c), () -> model.type(c));
        }
        if (random.nextInt(2) == 0) {
            int what = random.nextInt(5);
            compare("count " + what, () -> machine.count(what), () -> model.count(what));
        }
    }

    private void other() {
        int n = random.nextInt(14) - 1;
        int symbol = random.nextInt(45) - 2;
        switch (random.nextInt(8)) {
            case 0:
                compare("cancel ", () -> machine.cancel(), () -> model.cancel());
                break;
            case 1:
            case 2:
                compare("take ", () -> machine.take(), () -> model.take());
                break;
            case 3:
                int number = random.nextInt(4) == 0 ? random.nextInt() : random.nextInt(80000) - 40000;
                compare("give " + number, () -> machine.give(number), () -> model.give(number));
                break;
            case 4:
                compare("collect ", () -> machine.collect(), () -> model.collect());
                break;
            case 5:
                compare("kind " + symbol, () -> machine.kind(symbol), () -> model.kind(symbol));
                break;
            case 6:
                compare("number " + symbol, () -> machine.number(symbol), () -> model.number(symbol));
                break;
            default:
                compare("count " + n, () -> machine.count(n), () -> model.count(n));
                break;
        }
    }

    private String noise() {
        String signs = "()()'' \nab01-+*/<t99(((((((((((((A.\t";
        StringBuilder all = new StringBuilder();
        for (int i = random.nextInt(20); i >= 0; i--) {
            all.append(signs.charAt(random.nextInt(signs.length())));
        }
        return all.toString();
    }

    /** Programs that go deep, go long, or fill the heap. */
    private String usual() {
        int n = random.nextInt(34);
        String[] programs = {
            "(set f(fn(x)(if(< x 1)nil(cons x(f(- x 1))))))(set a(f " + n + "))",
            "(set g(fn(x)(if(eq x 0)0(+ 1(g(- x 1))))))(g " + n + ")",
            "(set x " + n + ")(while(< 0 x)(set x(- x 1))(set y(list x y)))",
            "(set x 0)(while(< x " + n + ")(set x(+ x 1))(" + form(3) + "))",
            "(set a(vec 7 0))(put a 3 a)(set b(cons a a))(rcd b b)",
            "(set f((fn(x y)(fn(c)(set x(cons c x))))nil(vec 3 1)))(f 1)(f 2)",
            "(set b '(1 2 3))(rca b(vec 3 b))(rcd b(list 1 2))",
            "(catch 'a(f(list 1(g(throw 'a(cons 1 2))))))",
            "(set f(fn(x)(catch x(if(< x 1)(throw(get)x)(f(- x 1))))))(f " + n + ")",
            "(set x '(a b))(set x(cons x x))(print(set x(cons x x)))",
            "(while t(vec " + n % 8 + " it))",
            "(set a nil)(set b nil)(set c nil)(set x nil)(set y nil)",
            "(while(set a(cons a a))" + form(3) + ")",
            "(set g(fn(a b c x)(g(list a)(list b)(fn(y)x)(vec 1 x))))(g 1 2 3 4)"};
        return programs[random.nextInt(programs.length)];
    }

    private String pick(String[] from) {
        return from[random.nextInt(from.length)];
    }

    private String name() {
        return random.nextInt(40) == 0 ? "n" + random.nextInt(30) : pick(NAMES);
    }

    private String atom() {
        switch (random.nextInt(8)) {
            case 0:
                return "nil";
            case 1:
                return Integer.toString(random.nextInt(66000) - 33000);
            case 2:
            case 3:
                return Integer.toString(random.nextInt(10) - 1);
            default:
                return name();
        }
    }

    private String parts(int most, int depth) {
        StringBuilder all = new StringBuilder();
        for (int i = random.nextInt(most + 1); i > 0; i--) {
            all.append(' ').append(part(depth));
        }
        return all.toString();
    }

    private String part(int depth) {
        if (depth <= 0 || random.nextInt(4) == 0) {
            return random.nextInt(5) == 0 ? "'" + atom() : atom();
        }
        return form(depth);
    }

    private String form(int depth) {
        int d = depth - 1;
        switch (random.nextInt(22)) {
            case 0:
                return "(if " + part(d) + " " + part(d) + (random.nextBoolean() ? " " + part(d) : "") + ")";
            case 1:
                return "(do" + parts(4, d) + ")";
            case 2:
            case 3:
            case 4:
                return "(set " + name() + " " + part(d) + ")";
            case 5:
                return "(while " + part(d) + parts(2, d) + ")";
            case 6:
            case 7:
                return "(fn(" + (random.nextBoolean() ? "x" : "x y") + ")" + parts(3, d) + ")";
            case 8:
                return "(catch " + part(d) + parts(3, d) + ")";
            case 9:
                return "(list" + parts(5, d) + ")";
            case 10:
                return "(put " + part(d) + " " + random.nextInt(4) + " " + part(d) + ")";
            case 11:
                return "(get)";
            case 12:
                return "'(" + parts(3, d) + ")";
            case 13:
                return "(vec " + random.nextInt(9) + " " + part(d) + ")";
            case 14:
                return "((fn(x)" + parts(3, d) + ")" + part(d) + ")";
            case 15:
                return "(" + pick(new String[] {"f", "g", "a"}) + parts(2, d) + ")";
            case 16:
            case 17:
                return "(" + pick(ONE) + " " + part(d) + ")";
            case 18:
                return "(" + parts(6, d) + ")";
            default:
                return "(" + pick(TWO) + " " + part(d) + " " + part(d) + ")";
        }
    }
}
