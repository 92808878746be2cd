import java.util.ArrayDeque;
import java.util.ArrayList;
import java.util.Collections;
import java.util.Deque;
import java.util.IdentityHashMap;
import java.util.LinkedHashMap;
import java.util.List;
import java.util.Map;
import java.util.Set;

/**
 * The document's machine once more, as plainly as can be: values are Java objects, forms are evaluated by
 * recursion, what was typed is read anew for each character, and what is live is looked for from its roots.
 */
final class Model {
    static final class Fault extends RuntimeException {
        private static final long serialVersionUID = 1;
        final String name;

        Fault(String name) {
            super(name);
            this.name = name;
        }
    }

    private static final class Thrown extends RuntimeException {
        private static final long serialVersionUID = 1;
        final transient Catch to;
        final transient Object value;

        Thrown(Catch to, Object value) {
            this.to = to;
            this.value = value;
        }
    }

    private static final class Symbol {
        final String name;
        final int number;
        Object value;

        Symbol(String name, int number) {
            this.name = name;
            this.number = number;
        }
    }

    private static final class Cell {
        Object car;
        Object cdr;
        final boolean isRead;

        Cell(Object car, Object cdr, boolean isRead) {
            this.car = car;
            this.cdr = cdr;
            this.isRead = isRead;
        }
    }

    private static final class Vector {
        final Object[] values;

        Vector(Object[] values) {
            this.values = values;
        }
    }

    private static final class Closure {
        final List<Object> names;
        final List<Object> body;
        final Frame frame;

        Closure(List<Object> names, List<Object> body, Frame frame) {
            this.names = names;
            this.body = body;
            this.frame = frame;
        }
    }

    private static final class Frame {
        final Frame around;
        final Map<Object, Object> values = new LinkedHashMap<>();

        Frame(Frame around) {
            this.around = around;
        }
    }

    private static final class Catch {
        final Object tag;

        Catch(Object tag) {
            this.tag = tag;
        }
    }

    private static final Object NIL = new Object();
    private static final String ATOMIC = "abcdefghijklmnopqrstuvwxyz0123456789+-*/<";
    private static final Map<String, int[]> PARTS = new LinkedHashMap<>();

    static {
        String[] said = {"quote 1 1", "if 2 3", "do 0 999", "set 2 2", "while 1 999", "fn 1 999", "catch 1 999",
            "throw 2 2", "car 1 1", "cdr 1 1", "cons 2 2", "rca 2 2", "rcd 2 2", "list 0 4", "atom 1 1", "eq 2 2",
            "+ 2 2", "- 2 2", "* 2 2", "/ 2 2", "< 2 2", "and 2 2", "or 2 2", "xor 2 2", "sh 2 2", "vec 2 2",
            "ref 2 2", "put 3 3", "len 1 1", "print 1 1", "get 0 0"};
        for (String line : said) {
            String[] words = line.split(" ");
            PARTS.put(words[0], new int[] {Integer.parseInt(words[1]), Integer.parseInt(words[2])});
        }
    }

    private final int size;
    private final List<Symbol> symbols = new ArrayList<>();
    private final List<Cell> read = new ArrayList<>();
    private final Deque<Integer> input = new ArrayDeque<>();
    private final StringBuilder output = new StringBuilder();
    private String text = "";
    private int open;
    private int used;
    private int collections;
    private int usedAfter;
    private int steps;
    private int mostCalls;
    private int valued;
    private int failed;
    private final List<Object> parts = new ArrayList<>();
    private final List<Frame> calls = new ArrayList<>();
    private final List<Catch> catches = new ArrayList<>();

    Model(int size) {
        this.size = 40 + Math.floorMod(size, 128);
        symbol("t").value = symbol("t");
        symbol("it");
        symbol("quote");
    }

    // ---- the face

    int type(int c) {
        if (c < 0 || c > 127 || (ATOMIC + "()' \n").indexOf(c) < 0) {
            throw new Fault("IllegalArgumentException");
        }
        text += (char) c;
        Object form;
        try {
            form = readText();
        } catch (Fault e) {
            text = "";
            open = 0;
            throw e;
        }
        if (form == null) {
            return 0;
        }
        text = "";
        open = 0;
        noteRead(form);
        return kindOf(run(form));
    }

    int cancel() {
        int were = open;
        text = "";
        open = 0;
        return were;
    }

    int take() {
        need(output.length() > 0, "NoSuchElementException");
        int c = output.charAt(0);
        output.deleteCharAt(0);
        return c;
    }

    int give(int number) {
        need(number >= -32768 && number <= 32767, "IllegalArgumentException");
        need(input.size() < 8, "UnsupportedOperationException");
        input.add(number);
        return input.size();
    }

    int collect() {
        used = live();
        usedAfter = used;
        collections++;
        return used;
    }

    int kind(int symbol) {
        need(symbol >= 0 && symbol < symbols.size(), "IllegalArgumentException");
        return kindOf(symbols.get(symbol).value);
    }

    int number(int symbol) {
        need(symbol >= 0 && symbol < symbols.size(), "IllegalArgumentException");
        Object value = symbols.get(symbol).value;
        if (value instanceof Integer) {
            return (Integer) value;
        }
        if (value instanceof Symbol) {
            return ((Symbol) value).number;
        }
        need(value instanceof Vector, "UnsupportedOperationException");
        return ((Vector) value).values.length;
    }

    int count(int what) {
        need(what >= 0 && what <= 10, "IllegalArgumentException");
        int[] counts = {used, collections, usedAfter, steps, mostCalls, symbols.size(), open, output.length(),
            input.size(), valued, failed};
        return counts[what];
    }

    private static void need(boolean holds, String otherwise) {
        if (!holds) {
            throw new Fault(otherwise);
        }
    }

    private static int kindOf(Object value) {
        return value == null ? 0 : value == NIL ? 1 : value instanceof Integer ? 2 : value instanceof Symbol ? 3
            : value instanceof Cell ? 4 : value instanceof Vector ? 5 : 6;
    }

    // ---- reading

    private Symbol symbol(String name) {
        for (Symbol symbol : symbols) {
            if (symbol.name.equals(name)) {
                return symbol;
            }
        }
        need(name.length() <= 5 && symbols.size() < 40, "IllegalArgumentException");
        Symbol symbol = new Symbol(name, symbols.size());
        symbols.add(symbol);
        return symbol;
    }

    /** An open ( with its values, or an open ' without. */
    private static final class Open {
        final List<Object> values;

        Open(List<Object> values) {
            this.values = values;
        }
    }

    /** The form that the text closes, or null. */
    private Object readText() {
        List<Open> stack = new ArrayList<>();
        int i = 0;
        while (i < text.length()) {
            char c = text.charAt(i);
            if (ATOMIC.indexOf(c) >= 0) {
                int end = i;
                while (end < text.length() && ATOMIC.indexOf(text.charAt(end)) >= 0) {
                    end++;
                }
                if (end < text.length() && !stack.isEmpty()) {
                    finish(stack, atom(text.substring(i, end)));
                }
                i = end;
                continue;
            }
            i++;
            if (c == '(' || c == '\'' && !stack.isEmpty()) {
                need(stack.size() < 12, "IllegalArgumentException");
                stack.add(new Open(c == '(' ? new ArrayList<>() : null));
            } else if (c == ')') {
                need(!stack.isEmpty() && stack.get(stack.size() - 1).values != null, "IllegalArgumentException");
                Object list = listOf(stack.remove(stack.size() - 1).values);
                if (stack.isEmpty()) {
                    return list;
                }
                finish(stack, list);
            }
        }
        open = stack.size();
        return null;
    }

    private void finish(List<Open> stack, Object value) {
        Object whole = value;
        while (stack.get(stack.size() - 1).values == null) {
            stack.remove(stack.size() - 1);
            whole = new Cell(symbol("quote"), new Cell(whole, NIL, true), true);
        }
        stack.get(stack.size() - 1).values.add(whole);
    }

    private Object atom(String name) {
        if (name.matches("-?[0-9]+")) {
            java.math.BigInteger number = new java.math.BigInteger(name);
            need(number.bitLength() < 16, "IllegalArgumentException");
            return number.intValue();
        }
        return name.equals("nil") ? NIL : symbol(name);
    }

    private static Object listOf(List<Object> values) {
        Object list = NIL;
        for (int i = values.size() - 1; i >= 0; i--) {
            list = new Cell(values.get(i), list, true);
        }
        return list;
    }

    private void noteRead(Object value) {
        if (value instanceof Cell) {
            read.add((Cell) value);
            noteRead(((Cell) value).car);
            noteRead(((Cell) value).cdr);
        }
    }

    private static List<Object> elements(Object list) {
        List<Object> values = new ArrayList<>();
        for (Object rest = list; rest instanceof Cell; rest = ((Cell) rest).cdr) {
            values.add(((Cell) rest).car);
        }
        return values;
    }

    // ---- running

    private Object run(Object form) {
        try {
            lookThrough(form);
        } catch (Fault e) {
            failed++;
            throw e;
        }
        steps = 0;
        mostCalls = 0;
        try {
            Object value = evaluate(form, null);
            symbol("it").value = value;
            valued++;
            return value;
        } catch (Fault e) {
            failed++;
            throw e;
        } finally {
            parts.clear();
            calls.clear();
            catches.clear();
        }
    }

    private static String headOf(List<Object> list) {
        return list.get(0) instanceof Symbol && PARTS.containsKey(((Symbol) list.get(0)).name)
            ? ((Symbol) list.get(0)).name : "";
    }

    private void lookThrough(Object form) {
        if (!(form instanceof Cell)) {
            return;
        }
        List<Object> list = elements(form);
        String head = headOf(list);
        int[] bounds = PARTS.getOrDefault(head, new int[] {0, 4});
        need(list.size() - 1 >= bounds[0] && list.size() - 1 <= bounds[1], "IllegalArgumentException");
        int from = head.isEmpty() ? 0 : 1;
        if (head.equals("quote")) {
            return;
        }
        if (head.equals("set")) {
            need(list.get(1) instanceof Symbol, "IllegalArgumentException");
            from = 2;
        }
        if (head.equals("fn")) {
            need(list.get(1) == NIL || list.get(1) instanceof Cell, "IllegalArgumentException");
            List<Object> names = elements(list.get(1));
            need(names.size() <= 4, "IllegalArgumentException");
            for (Object name : names) {
                need(name instanceof Symbol && names.indexOf(name) == names.lastIndexOf(name),
                    "IllegalArgumentException");
            }
            from = 2;
        }
        for (Object part : list.subList(from, list.size())) {
            lookThrough(part);
        }
    }

    private static Frame frameOf(Object symbol, Frame frame) {
        for (Frame f = frame; f != null; f = f.around) {
            if (f.values.containsKey(symbol)) {
                return f;
            }
        }
        return null;
    }

    private Object evaluate(Object form, Frame frame) {
        need(steps < 1000, "IllegalStateException");
        steps++;
        if (form instanceof Symbol) {
            Frame has = frameOf(form, frame);
            Object value = has == null ? ((Symbol) form).value : has.values.get(form);
            need(value != null, "NoSuchElementException");
            return value;
        }
        if (!(form instanceof Cell)) {
            return form;
        }
        List<Object> list = elements(form);
        switch (headOf(list)) {
            case "quote":
                return list.get(1);
            case "if":
                if (evaluate(list.get(1), frame) != NIL) {
                    return evaluate(list.get(2), frame);
                }
                return list.size() == 3 ? NIL : evaluate(list.get(3), frame);
            case "do":
                return evaluateAll(list.subList(1, list.size()), frame);
            case "set":
                return set(list.get(1), evaluate(list.get(2), frame), frame);
            case "while":
                while (evaluate(list.get(1), frame) != NIL) {
                    evaluateAll(list.subList(2, list.size()), frame);
                }
                return NIL;
            case "fn":
                make(2);
                return new Closure(elements(list.get(1)), list.subList(2, list.size()), frame);
            case "catch":
                return catching(list, frame);
            default:
                return operate(list, frame);
        }
    }

    private Object evaluateAll(List<Object> forms, Frame frame) {
        Object value = NIL;
        for (Object form : forms) {
            value = evaluate(form, frame);
        }
        return value;
    }

    private Object set(Object symbol, Object value, Frame frame) {
        Frame has = frameOf(symbol, frame);
        if (has == null) {
            ((Symbol) symbol).value = value;
        } else {
            has.values.put(symbol, value);
        }
        return value;
    }

    private Object catching(List<Object> list, Frame frame) {
        Catch here = new Catch(evaluate(list.get(1), frame));
        int partsBefore = parts.size();
        int callsBefore = calls.size();
        catches.add(here);
        int catchesNow = catches.size();
        Object value;
        try {
            value = evaluateAll(list.subList(2, list.size()), frame);
        } catch (Thrown e) {
            cut(parts, partsBefore);
            cut(calls, callsBefore);
            cut(catches, catchesNow - 1);
            if (e.to != here) {
                throw e;
            }
            return e.value;
        }
        cut(catches, catchesNow - 1);
        return value;
    }

    private static void cut(List<?> list, int size) {
        list.subList(size, list.size()).clear();
    }

    private static boolean same(Object a, Object b) {
        return a == b || a instanceof Integer && a.equals(b);
    }

    private Object operate(List<Object> list, Frame frame) {
        String head = headOf(list);
        int before = parts.size();
        for (Object part : list.subList(head.isEmpty() ? 0 : 1, list.size())) {
            parts.add(evaluate(part, frame));
        }
        List<Object> own = new ArrayList<>(parts.subList(before, parts.size()));
        if (head.isEmpty()) {
            return call(own, before);
        }
        if (head.equals("throw")) {
            for (int i = catches.size() - 1; i >= 0; i--) {
                if (same(catches.get(i).tag, own.get(0))) {
                    throw new Thrown(catches.get(i), own.get(1));
                }
            }
            throw new Fault("NoSuchElementException");
        }
        Object value = apply(head, own);
        cut(parts, before);
        return value;
    }

    private Object call(List<Object> own, int before) {
        need(own.get(0) instanceof Closure, "UnsupportedOperationException");
        Closure closure = (Closure) own.get(0);
        need(closure.names.size() == own.size() - 1, "UnsupportedOperationException");
        need(calls.size() < 30, "IllegalStateException");
        make(1 + own.size());
        Frame frame = new Frame(closure.frame);
        for (int i = 1; i < own.size(); i++) {
            frame.values.put(closure.names.get(i - 1), own.get(i));
        }
        cut(parts, before);
        calls.add(frame);
        mostCalls = Math.max(mostCalls, calls.size());
        Object value = evaluateAll(closure.body, frame);
        calls.remove(calls.size() - 1);
        return value;
    }

    private Object apply(String head, List<Object> own) {
        Object a = own.isEmpty() ? null : own.get(0);
        Object b = own.size() < 2 ? null : own.get(1);
        switch (head) {
            case "car":
            case "cdr":
                need(a == NIL || a instanceof Cell, "UnsupportedOperationException");
                return a == NIL ? NIL : head.equals("car") ? ((Cell) a).car : ((Cell) a).cdr;
            case "cons":
                make(2);
                return new Cell(a, b, false);
            case "rca":
            case "rcd":
                need(a instanceof Cell, "UnsupportedOperationException");
                if (head.equals("rca")) {
                    ((Cell) a).car = b;
                } else {
                    ((Cell) a).cdr = b;
                }
                return a;
            case "list":
                make(2 * own.size());
                Object list = NIL;
                for (int i = own.size() - 1; i >= 0; i--) {
                    list = new Cell(own.get(i), list, false);
                }
                return list;
            case "atom":
                return truth(!(a instanceof Cell));
            case "eq":
                return truth(same(a, b));
            case "vec":
            case "ref":
            case "put":
            case "len":
                return vectors(head, own, a, b);
            case "print":
                output.append(written(a, 0, 0)).append('\n');
                output.setLength(Math.min(200, output.length()));
                return a;
            case "get":
                return input.isEmpty() ? NIL : input.remove();
            default:
                need(a instanceof Integer && b instanceof Integer, "UnsupportedOperationException");
                return compute(head, (Integer) a, (Integer) b);
        }
    }

    private Object vectors(String head, List<Object> own, Object a, Object b) {
        if (head.equals("vec")) {
            need(a instanceof Integer && (Integer) a >= 0 && (Integer) a <= 7, "UnsupportedOperationException");
            make(1 + (Integer) a);
            Object[] values = new Object[(Integer) a];
            java.util.Arrays.fill(values, b);
            return new Vector(values);
        }
        need(a instanceof Vector, "UnsupportedOperationException");
        Object[] values = ((Vector) a).values;
        if (head.equals("len")) {
            return values.length;
        }
        need(b instanceof Integer, "UnsupportedOperationException");
        int i = (Integer) b;
        need(i >= 0 && i < values.length, "IndexOutOfBoundsException");
        if (head.equals("put")) {
            values[i] = own.get(2);
        }
        return values[i];
    }

    private Object compute(String head, int a, int b) {
        switch (head) {
            case "+":
                return ranged((long) a + b);
            case "-":
                return ranged((long) a - b);
            case "*":
                return ranged((long) a * b);
            case "/":
                need(b != 0, "ArithmeticException");
                return ranged((long) a / b);
            case "<":
                return truth(a < b);
            case "and":
                return a & b;
            case "or":
                return a | b;
            case "xor":
                return a ^ b;
            default:
                need(b >= -15 && b <= 15, "UnsupportedOperationException");
                char bits = (char) a;
                return (int) (short) (b >= 0 ? bits << b : bits >>> -b);
        }
    }

    private static Object ranged(long number) {
        need(number >= -32768 && number <= 32767, "ArithmeticException");
        return (int) number;
    }

    private Object truth(boolean isTrue) {
        return isTrue ? symbol("t") : NIL;
    }

    // ---- printing

    /** More than enough of what is printed; soFar tells how much stands before it. */
    private String written(Object value, int depth, int soFar) {
        if (soFar > 200) {
            return "";
        }
        if (value instanceof Symbol) {
            return ((Symbol) value).name;
        }
        if (value instanceof Closure) {
            return "#";
        }
        if (!(value instanceof Cell || value instanceof Vector)) {
            return value == NIL ? "nil" : value.toString();
        }
        if (depth == 8) {
            return "*";
        }
        StringBuilder all = new StringBuilder(value instanceof Cell ? "(" : "[");
        if (value instanceof Vector) {
            for (Object v : ((Vector) value).values) {
                all.append(all.length() > 1 ? " " : "");
                all.append(written(v, depth + 1, soFar + all.length()));
            }
            return all.append("]").toString();
        }
        Object rest = value;
        while (rest instanceof Cell && all.length() < 300) {
            all.append(all.length() > 1 ? " " : "");
            all.append(written(((Cell) rest).car, depth + 1, soFar + all.length()));
            rest = ((Cell) rest).cdr;
        }
        if (rest != NIL && !(rest instanceof Cell)) {
            all.append(" . ").append(written(rest, depth + 1, soFar + all.length()));
        }
        return all.append(")").toString();
    }

    // ---- words

    private void make(int words) {
        if (used + words > size) {
            collect();
            need(used + words <= size, "IllegalStateException");
        }
        used += words;
    }

    private int live() {
        Deque<Object> waiting = new ArrayDeque<>();
        for (Symbol symbol : symbols) {
            if (symbol.value != null) {
                waiting.add(symbol.value);
            }
        }
        waiting.addAll(read);
        waiting.addAll(calls);
        waiting.addAll(parts);
        for (Catch c : catches) {
            waiting.add(c.tag);
        }
        Set<Object> seen = Collections.newSetFromMap(new IdentityHashMap<>());
        int words = 0;
        while (!waiting.isEmpty()) {
            Object value = waiting.remove();
            if (!seen.add(value)) {
                continue;
            }
            if (value instanceof Cell) {
                words += ((Cell) value).isRead ? 0 : 2;
                waiting.add(((Cell) value).car);
                waiting.add(((Cell) value).cdr);
            } else if (value instanceof Vector) {
                words += 1 + ((Vector) value).values.length;
                Collections.addAll(waiting, ((Vector) value).values);
            } else if (value instanceof Closure) {
                words += 2;
                if (((Closure) value).frame != null) {
                    waiting.add(((Closure) value).frame);
                }
            } else if (value instanceof Frame) {
                words += 2 + ((Frame) value).values.size();
                waiting.addAll(((Frame) value).values.values());
                if (((Frame) value).around != null) {
                    waiting.add(((Frame) value).around);
                }
            }
        }
        return words;
    }
}
