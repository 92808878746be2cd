import java.util.NoSuchElementException;

/**
 * A Lisp machine: characters are read as forms, compiled, and run over tagged
 * words in a heap that is collected. The document that says what each call
 * answers is DOC.md; its promises are named here by their numbers.
 */
public final class TagMachine {

    /** The document promises nothing behind this many calls, so all rows are sized for them. */
    private static final int MOST_USES = 512;
    private static final int MANY = 1000000;
    private static final int LEAST_SIZE = 40;
    private static final int SIZES = 128;
    private static final int MOST_INPUT = 8;
    private static final int MOST_OUTPUT = 200;
    private static final int LEAST_NUMBER = -32768;
    private static final int GREATEST_NUMBER = 32767;

    private static final int NO_FAULT = 0;
    private static final int ARGUMENT = 1;
    private static final int STATE = 2;
    private static final int ELEMENT = 3;
    private static final int UNSUPPORTED = 4;
    private static final int ARITHMETIC = 5;
    private static final int INDEX = 6;

    private final Symbols symbols;
    private final Heap heap;
    private final Reader reader;
    private final Runner runner;
    private final Queue input;
    private final Queue output;
    private int uses;

    /** Promise 1. */
    public TagMachine(int size) {
        symbols = new Symbols();
        heap = new Heap(LEAST_SIZE + Math.floorMod(size, SIZES));
        reader = new Reader(heap, symbols);
        input = new Queue(MOST_INPUT);
        output = new Queue(MOST_OUTPUT);
        runner = new Runner(heap, symbols, input, new Printer(heap, symbols, output));
    }

    /** Promise 2. */
    public int type(int character) throws IllegalArgumentException, IllegalStateException,
            NoSuchElementException, UnsupportedOperationException, ArithmeticException,
            IndexOutOfBoundsException {
        if (isWornOut()) {
            return 0;
        }
        if (!Reader.isReadable(character)) {
            throw new IllegalArgumentException("no such character");
        }
        int news = reader.read(character);
        if (news == Reader.UNREADABLE) {
            throw new IllegalArgumentException("this can't be read");
        }
        if (news == Reader.NOTHING) {
            return 0;
        }
        raise(runner.run(reader.form));
        return Word.tag(symbols.word(Symbols.IT));
    }

    /** Promise 3. */
    public int cancel() {
        return isWornOut() ? 0 : reader.drop();
    }

    /** Promise 4. */
    public int take() throws NoSuchElementException {
        if (isWornOut()) {
            return 0;
        }
        if (output.size == 0) {
            throw new NoSuchElementException("no output");
        }
        return output.removeOldest();
    }

    /** Promise 5. */
    public int give(int number) throws IllegalArgumentException, UnsupportedOperationException {
        if (isWornOut()) {
            return 0;
        }
        if (!isInRange(number)) {
            throw new IllegalArgumentException("number out of range");
        }
        if (input.isFull()) {
            throw new UnsupportedOperationException("the input is full");
        }
        input.add(number);
        return input.size;
    }

    /** Promise 6. */
    public int collect() {
        if (isWornOut()) {
            return 0;
        }
        runner.keepLive();
        return heap.used;
    }

    /** Promise 7. */
    public int kind(int symbol) throws IllegalArgumentException {
        if (isWornOut()) {
            return 0;
        }
        if (!symbols.has(symbol)) {
            throw new IllegalArgumentException("no such symbol");
        }
        return Word.tag(symbols.word(symbol));
    }

    /** Promise 8. */
    public int number(int symbol) throws IllegalArgumentException, UnsupportedOperationException {
        if (isWornOut()) {
            return 0;
        }
        if (!symbols.has(symbol)) {
            throw new IllegalArgumentException("no such symbol");
        }
        int word = symbols.word(symbol);
        switch (Word.tag(word)) {
            case Word.NUMBER:
            case Word.SYMBOL:
                return Word.held(word);
            case Word.VECTOR:
                return heap.vectorLength(word);
            default:
                throw new UnsupportedOperationException("the value has no number");
        }
    }

    /** Promise 9. */
    public int count(int what) throws IllegalArgumentException {
        if (isWornOut()) {
            return 0;
        }
        switch (what) {
            case 0:
                return heap.used;
            case 1:
                return heap.collections;
            case 2:
                return heap.usedAfter;
            case 3:
                return runner.steps;
            case 4:
                return runner.mostCalls;
            case 5:
                return symbols.size;
            case 6:
                return reader.open;
            case 7:
                return output.size;
            case 8:
                return input.size;
            case 9:
                return runner.valued;
            case 10:
                return runner.failed;
            default:
                throw new IllegalArgumentException("no such count");
        }
    }

    /** Counts a call; behind the last promised one nothing is done, so that no row can overflow. */
    private boolean isWornOut() {
        if (uses >= MOST_USES) {
            return true;
        }
        uses++;
        return false;
    }

    private static boolean isInRange(int number) {
        return number >= LEAST_NUMBER && number <= GREATEST_NUMBER;
    }

    private static void raise(int fault) {
        switch (fault) {
            case ARGUMENT:
                throw new IllegalArgumentException("the form is ill-formed");
            case STATE:
                throw new IllegalStateException("too many steps, calls or words");
            case ELEMENT:
                throw new NoSuchElementException("no value, or no catch");
            case UNSUPPORTED:
                throw new UnsupportedOperationException("a value of another kind is needed");
            case ARITHMETIC:
                throw new ArithmeticException("out of range, or divided by 0");
            case INDEX:
                throw new IndexOutOfBoundsException("no such index");
            default:
                break;
        }
    }

    /** Tagged words: the low bits tell the kind, as type answers it; the others hold a number or an address. */
    private static final class Word {
        static final int NONE = 0;
        /** The tag, and also the only word that bears it. */
        static final int NIL = 1;
        static final int NUMBER = 2;
        static final int SYMBOL = 3;
        static final int CELL = 4;
        static final int VECTOR = 5;
        static final int CLOSURE = 6;
        static final int FRAME = 7;
        /** Left where an object was, with its new address. */
        static final int MOVED = 8;

        private static final int TAG_BITS = 4;
        private static final int TAG_MASK = 15;

        static int of(int tag, int held) {
            return held << TAG_BITS | tag;
        }

        static int tag(int word) {
            return word & TAG_MASK;
        }

        static int held(int word) {
            return word >> TAG_BITS;
        }
    }

    /** What a symbol at the head of a list means, and how many parts stand behind it. */
    private enum Operator {
        /** The first one, so that a symbol that is no operator means it. */
        CALL("", 0, 4),
        QUOTE("quote", 1, 1),
        IF("if", 2, 3),
        DO("do", 0, MANY),
        SET("set", 2, 2),
        WHILE("while", 1, MANY),
        FN("fn", 1, MANY),
        CATCH("catch", 1, MANY),
        THROW("throw", 2, 2),
        CAR("car", 1, 1),
        CDR("cdr", 1, 1),
        CONS("cons", 2, 2),
        RCA("rca", 2, 2),
        RCD("rcd", 2, 2),
        LIST("list", 0, 4),
        ATOM("atom", 1, 1),
        EQ("eq", 2, 2),
        ADD("+", 2, 2),
        SUBTRACT("-", 2, 2),
        MULTIPLY("*", 2, 2),
        DIVIDE("/", 2, 2),
        LESS("<", 2, 2),
        AND("and", 2, 2),
        OR("or", 2, 2),
        XOR("xor", 2, 2),
        SHIFT("sh", 2, 2),
        VEC("vec", 2, 2),
        REF("ref", 2, 2),
        PUT("put", 3, 3),
        LEN("len", 1, 1),
        PRINT("print", 1, 1),
        GET("get", 0, 0);

        private static final Operator[] ALL = values();

        final String text;
        final int fewest;
        final int most;

        Operator(String text, int fewest, int most) {
            this.text = text;
            this.fewest = fewest;
            this.most = most;
        }

        static Operator at(int index) {
            return index >= 0 && index < ALL.length ? ALL[index] : CALL;
        }

        /** The index of the operator of that name; that of CALL if there is none. */
        static int indexOf(char[] letters, int length) {
            for (int i = 1; i < ALL.length; i++) {
                if (ALL[i].isNamed(letters, length)) {
                    return i;
                }
            }
            return 0;
        }

        private boolean isNamed(char[] letters, int length) {
            if (text.length() != length || letters.length < length) {
                return false;
            }
            for (int i = 0; i < length; i++) {
                if (text.charAt(i) != letters[i]) {
                    return false;
                }
            }
            return true;
        }
    }

    /** All symbols, with their own values and what they mean at the head of a list. */
    private static final class Symbols {
        static final int T = 0;
        static final int IT = 1;
        static final int QUOTE = 2;
        static final int LONGEST = 5;
        private static final int MOST = 40;

        private final char[] letters = new char[MOST * LONGEST];
        private final int[] lengths = new int[MOST];
        private final int[] operators = new int[MOST];
        final int[] words = new int[MOST];
        int size;

        Symbols() {
            add("t".toCharArray(), 1);
            add("it".toCharArray(), 2);
            add("quote".toCharArray(), 5);
            setWord(T, Word.of(Word.SYMBOL, T));
        }

        boolean has(int symbol) {
            return symbol >= 0 && symbol < size && symbol < MOST;
        }

        int word(int symbol) {
            return has(symbol) ? words[symbol] : Word.NONE;
        }

        void setWord(int symbol, int word) {
            if (has(symbol)) {
                words[symbol] = word;
            }
        }

        int operator(int symbol) {
            return has(symbol) ? operators[symbol] : 0;
        }

        int length(int symbol) {
            return has(symbol) ? lengths[symbol] : 0;
        }

        char letter(int symbol, int index) {
            int at = symbol * LONGEST + index;
            return at >= 0 && at < letters.length ? letters[at] : ' ';
        }

        /** The number of the symbol of that name, which is a new one if need be; -1 if it can't be one. */
        int numbered(char[] name, int length) {
            if (length > LONGEST || length > name.length) {
                return -1;
            }
            for (int i = 0; i < size; i++) {
                if (isNamed(i, name, length)) {
                    return i;
                }
            }
            return add(name, length);
        }

        private boolean isNamed(int symbol, char[] name, int length) {
            if (length(symbol) != length) {
                return false;
            }
            for (int i = 0; i < length && i < name.length; i++) {
                if (letter(symbol, i) != name[i]) {
                    return false;
                }
            }
            return true;
        }

        private int add(char[] name, int length) {
            if (size >= MOST) {
                return -1;
            }
            int start = size * LONGEST;
            for (int i = 0; i < length && i < LONGEST && i < name.length; i++) {
                letters[start + i] = name[i];
            }
            lengths[size] = length;
            operators[size] = Operator.indexOf(name, length);
            size++;
            return size - 1;
        }
    }

    /**
     * The memory: first the cells that were read, which stay where they are; behind them two halves of
     * SIZE words. Objects are made in one half; a collection moves those that are live to the other.
     */
    private static final class Heap {
        /** A character that is read brings less than two cells. */
        private static final int READ_WORDS = 4 * MOST_USES;

        private final int[] memory;
        private final int size;
        private int readTop;
        private int formStart;
        /** Only between these two can words of read cells have been replaced, so only there they hold roots. */
        private int lowReplaced = READ_WORDS;
        private int highReplaced;
        private int base = READ_WORDS;
        private int target;
        private int moved;
        int used;
        int usedAfter;
        int collections;

        Heap(int size) {
            this.size = Math.max(size, 0);
            memory = new int[READ_WORDS + 2 * this.size];
        }

        int at(int address) {
            return address >= 0 && address < memory.length ? memory[address] : Word.NIL;
        }

        void put(int address, int word) {
            if (address >= 0 && address < memory.length) {
                memory[address] = word;
            }
        }

        int car(int word) {
            return Word.tag(word) == Word.CELL ? at(Word.held(word)) : Word.NIL;
        }

        int cdr(int word) {
            return Word.tag(word) == Word.CELL ? at(Word.held(word) + 1) : Word.NIL;
        }

        int vectorLength(int vector) {
            return Word.held(at(Word.held(vector)));
        }

        /** The length of a list that was read as a part of a program: it ends, nobody can replace its parts. */
        int listLength(int list) {
            int length = 0;
            for (int rest = list; Word.tag(rest) == Word.CELL && length < READ_WORDS; rest = cdr(rest)) {
                length++;
            }
            return length;
        }

        int readCell(int car, int cdr) {
            int address = readTop;
            if (address + 2 > READ_WORDS) {
                return Word.NIL;
            }
            readTop += 2;
            put(address, car);
            put(address + 1, cdr);
            return Word.of(Word.CELL, address);
        }

        void keepRead() {
            formStart = readTop;
        }

        void dropRead() {
            readTop = formStart;
        }

        /** Replaces a word of a cell, which may be one that was read. */
        void replace(int address, int word) {
            if (address < READ_WORDS) {
                lowReplaced = Math.min(lowReplaced, address);
                highReplaced = Math.max(highReplaced, address + 1);
            }
            put(address, word);
        }

        boolean hasRoom(int length) {
            return used + length <= size;
        }

        /** The address of new words; whoever asks has seen that there is room. */
        int make(int length) {
            int address = base + used;
            used += length;
            return address;
        }

        void startMove() {
            target = base == READ_WORDS ? READ_WORDS + size : READ_WORDS;
            moved = 0;
        }

        /** Moves what the words of a row refer to. */
        void moveRow(int[] row, int length) {
            for (int i = 0; i < length && i < row.length; i++) {
                row[i] = move(row[i]);
            }
        }

        void endMove() {
            moveAt(lowReplaced, highReplaced);
            // what was moved grows as it is looked through, by no more than one half holds
            for (int i = 0; i < moved && i < size; i++) {
                moveAt(target + i, target + i + 1);
            }
            base = target;
            used = moved;
            usedAfter = used;
            collections++;
        }

        private void moveAt(int from, int to) {
            for (int i = from; i < to; i++) {
                put(i, move(at(i)));
            }
        }

        private int move(int word) {
            int tag = Word.tag(word);
            int from = Word.held(word);
            if (tag < Word.CELL || from < READ_WORDS) {
                return word;
            }
            int first = at(from);
            if (Word.tag(first) == Word.MOVED) {
                return Word.of(tag, Word.held(first));
            }
            int to = target + moved;
            int length = objectLength(tag, from);
            for (int i = 0; i < length; i++) {
                put(to + i, at(from + i));
            }
            put(from, Word.of(Word.MOVED, to));
            moved += length;
            return Word.of(tag, to);
        }

        private int objectLength(int tag, int address) {
            switch (tag) {
                case Word.VECTOR:
                    return 1 + Word.held(at(address));
                case Word.FRAME:
                    return 2 + Word.held(at(address + 1));
                default:
                    return 2;
            }
        }
    }

    /** Puts characters together to atoms and lists. */
    private static final class Reader {
        static final int NOTHING = 0;
        static final int WHOLE = 1;
        static final int UNREADABLE = 2;
        private static final int MOST_OPEN = 12;
        private static final int NEW_LINE = 10;

        private final Heap heap;
        private final Symbols symbols;
        private final char[] atom = new char[MOST_USES];
        private int atomLength;
        private final boolean[] isQuote = new boolean[MOST_OPEN];
        private final int[] heads = new int[MOST_OPEN];
        private final int[] tails = new int[MOST_OPEN];
        int open;
        /** The list that has just closed outside. */
        int form = Word.NIL;

        Reader(Heap heap, Symbols symbols) {
            this.heap = heap;
            this.symbols = symbols;
        }

        static boolean isReadable(int c) {
            return c == '(' || c == ')' || c == '\'' || c == ' ' || c == NEW_LINE || isOfAtom(c);
        }

        private static boolean isOfAtom(int c) {
            return c >= 'a' && c <= 'z' || isDigit(c) || c == '+' || c == '-' || c == '*' || c == '/' || c == '<';
        }

        private static boolean isDigit(int c) {
            return c >= '0' && c <= '9';
        }

        /** Takes a readable character: NOTHING, WHOLE if a form has closed, or UNREADABLE. */
        int read(int c) {
            if (isOfAtom(c)) {
                addLetter(c);
                return NOTHING;
            }
            if (!endAtom()) {
                return refuse();
            }
            switch (c) {
                case '(':
                    return openOne(false);
                case '\'':
                    return open == 0 ? NOTHING : openOne(true);
                case ')':
                    return close();
                default:
                    return NOTHING;
            }
        }

        /** Drops what was read of a form; answers how many were open. */
        int drop() {
            int were = open;
            open = 0;
            atomLength = 0;
            heap.dropRead();
            return were;
        }

        private int refuse() {
            drop();
            return UNREADABLE;
        }

        private void addLetter(int c) {
            // atoms outside are passed over
            if (open > 0 && atomLength < atom.length) {
                atom[atomLength] = (char) c;
                atomLength++;
            }
        }

        private boolean endAtom() {
            if (atomLength == 0) {
                return true;
            }
            int word = atomWord();
            atomLength = 0;
            if (word == Word.NONE) {
                return false;
            }
            addValue(word);
            return true;
        }

        /** What the atom reads as; NONE if it can't be read. */
        private int atomWord() {
            if (isNumber()) {
                return numberWord();
            }
            if (atomLength == 3 && atom[0] == 'n' && atom[1] == 'i' && atom[2] == 'l') {
                return Word.NIL;
            }
            int symbol = symbols.numbered(atom, atomLength);
            return symbol < 0 ? Word.NONE : Word.of(Word.SYMBOL, symbol);
        }

        private int firstDigit() {
            return atom[0] == '-' ? 1 : 0;
        }

        private boolean isNumber() {
            int first = firstDigit();
            for (int i = first; i < atomLength && i < atom.length; i++) {
                if (!isDigit(atom[i])) {
                    return false;
                }
            }
            return atomLength > first;
        }

        private int numberWord() {
            int first = firstDigit();
            int number = 0;
            // once it is out of range it stays so, and must not wrap around
            for (int i = first; i < atomLength && i < atom.length && isInRange(number); i++) {
                int digit = atom[i] - '0';
                number = number * 10 + (first == 1 ? -digit : digit);
            }
            return isInRange(number) ? Word.of(Word.NUMBER, number) : Word.NONE;
        }

        private int openOne(boolean quote) {
            if (open < 0 || open >= MOST_OPEN) {
                return refuse();
            }
            isQuote[open] = quote;
            heads[open] = Word.NIL;
            tails[open] = Word.NIL;
            open++;
            return NOTHING;
        }

        private boolean isQuoteOpen() {
            return open > 0 && open <= MOST_OPEN && isQuote[open - 1];
        }

        private int close() {
            if (open <= 0 || open > MOST_OPEN || isQuoteOpen()) {
                return refuse();
            }
            open--;
            int list = heads[open];
            if (open > 0) {
                addValue(list);
                return NOTHING;
            }
            form = list;
            heap.keepRead();
            return WHOLE;
        }

        /** Ends the quotes that wait for this value, and puts it behind the others of the list. */
        private void addValue(int word) {
            int value = word;
            for (int i = 0; i < MOST_OPEN && isQuoteOpen(); i++) {
                open--;
                value = heap.readCell(Word.of(Word.SYMBOL, Symbols.QUOTE), heap.readCell(value, Word.NIL));
            }
            if (open <= 0 || open > MOST_OPEN) {
                return;
            }
            int cell = heap.readCell(value, Word.NIL);
            int last = tails[open - 1];
            if (last == Word.NIL) {
                heads[open - 1] = cell;
            } else {
                heap.put(Word.held(last) + 1, cell);
            }
            tails[open - 1] = cell;
        }
    }

    /** Looks a form through and turns it into instructions, which stay for the closures that are made of them. */
    private static final class Coder {
        static final int HALT = 0;
        /** Begins an evaluation. */
        static final int STEP = 1;
        static final int WORD = 2;
        static final int OWN_VALUE = 3;
        static final int SET_OWN = 4;
        static final int LOCAL_VALUE = 5;
        static final int SET_LOCAL = 6;
        static final int DROP = 7;
        static final int JUMP = 8;
        static final int JUMP_IF_NIL = 9;
        /** Its operand is where the body ends; the number of symbols and the body follow. */
        static final int CLOSE = 10;
        static final int RETURN = 11;
        static final int CATCH = 12;
        static final int END_CATCH = 13;
        static final int THROW = 14;
        /** Its operands are an operator and how many parts it has. */
        static final int APPLY = 15;
        static final int CALL = 16;

        /** A place is how many frames to go out, times this, plus the index in the frame. */
        static final int PLACES = 4;
        /** No form makes as many as three words of code for each of its characters. */
        private static final int MOST_CODE = 3 * MOST_USES;
        private static final int DEEPEST = 12;

        private final Heap heap;
        private final Symbols symbols;
        private final int[] code = new int[MOST_CODE];
        private int top;
        /** The lists of symbols of the closures around, which are those of the frames that will be around. */
        private final Stack scopes = new Stack(DEEPEST);

        Coder(Heap heap, Symbols symbols) {
            this.heap = heap;
            this.symbols = symbols;
        }

        int at(int address) {
            return address >= 0 && address < code.length ? code[address] : HALT;
        }

        /** Where the form's instructions begin; -1 if it is ill-formed. */
        int compile(int form) {
            int start = top;
            scopes.cut(0);
            boolean isGood = evaluation(form, 0);
            emit(HALT);
            if (!isGood || top >= code.length) {
                top = start;
                return -1;
            }
            return start;
        }

        private void emit(int word) {
            if (top < code.length) {
                code[top] = word;
                top++;
            }
        }

        private void emit(int instruction, int operand) {
            emit(instruction);
            emit(operand);
        }

        /** Emits an instruction whose operand is told later by land; answers where the operand stands. */
        private int leap(int instruction) {
            emit(instruction, 0);
            return top - 1;
        }

        private void land(int operandAt) {
            if (operandAt >= 0 && operandAt < code.length) {
                code[operandAt] = top;
            }
        }

        private boolean evaluation(int form, int depth) {
            if (depth > DEEPEST) {
                return false;
            }
            emit(STEP);
            switch (Word.tag(form)) {
                case Word.CELL:
                    return list(form, depth);
                case Word.SYMBOL:
                    emitFor(form, OWN_VALUE, LOCAL_VALUE);
                    return true;
                default:
                    emit(WORD, form);
                    return true;
            }
        }

        private boolean list(int form, int depth) {
            int head = heap.car(form);
            int parts = heap.cdr(form);
            int index = Word.tag(head) == Word.SYMBOL ? symbols.operator(Word.held(head)) : 0;
            Operator operator = Operator.at(index);
            int length = heap.listLength(parts);
            if (length < operator.fewest || length > operator.most) {
                return false;
            }
            switch (operator) {
                case QUOTE:
                    emit(WORD, heap.car(parts));
                    return true;
                case IF:
                    return choice(parts, depth + 1);
                case DO:
                    return body(parts, depth + 1);
                case SET:
                    return setting(parts, depth + 1);
                case WHILE:
                    return loop(parts, depth + 1);
                case FN:
                    return closure(parts, depth + 1);
                case CATCH:
                    return catching(parts, depth + 1);
                case THROW:
                    return throwing(parts, depth + 1);
                case CALL:
                    return calling(form, depth + 1);
                default:
                    return applying(index, parts, depth + 1);
            }
        }

        /** All of them, each value stays. */
        private boolean evaluations(int list, int depth) {
            int length = heap.listLength(list);
            int rest = list;
            for (int i = 0; i < length; i++) {
                if (!evaluation(heap.car(rest), depth)) {
                    return false;
                }
                rest = heap.cdr(rest);
            }
            return true;
        }

        /** All of them, only the last value stays, NIL for none. */
        private boolean body(int list, int depth) {
            int length = heap.listLength(list);
            if (length == 0) {
                emit(WORD, Word.NIL);
            }
            int rest = list;
            for (int i = 0; i < length; i++) {
                if (i > 0) {
                    emit(DROP);
                }
                if (!evaluation(heap.car(rest), depth)) {
                    return false;
                }
                rest = heap.cdr(rest);
            }
            return true;
        }

        private boolean applying(int operator, int parts, int depth) {
            boolean isGood = evaluations(parts, depth);
            emit(APPLY, operator);
            emit(heap.listLength(parts));
            return isGood;
        }

        private boolean calling(int form, int depth) {
            boolean isGood = evaluations(form, depth);
            emit(CALL, heap.listLength(form) - 1);
            return isGood;
        }

        private boolean throwing(int parts, int depth) {
            boolean isGood = evaluations(parts, depth);
            emit(THROW);
            return isGood;
        }

        private boolean choice(int parts, int depth) {
            if (!evaluation(heap.car(parts), depth)) {
                return false;
            }
            int toElse = leap(JUMP_IF_NIL);
            int rest = heap.cdr(parts);
            if (!evaluation(heap.car(rest), depth)) {
                return false;
            }
            int toEnd = leap(JUMP);
            land(toElse);
            boolean isGood = body(heap.cdr(rest), depth);
            land(toEnd);
            return isGood;
        }

        private boolean setting(int parts, int depth) {
            int symbol = heap.car(parts);
            if (Word.tag(symbol) != Word.SYMBOL || !evaluation(heap.car(heap.cdr(parts)), depth)) {
                return false;
            }
            emitFor(symbol, SET_OWN, SET_LOCAL);
            return true;
        }

        private boolean loop(int parts, int depth) {
            int again = top;
            if (!evaluation(heap.car(parts), depth)) {
                return false;
            }
            int toEnd = leap(JUMP_IF_NIL);
            boolean isGood = body(heap.cdr(parts), depth);
            emit(DROP);
            emit(JUMP, again);
            land(toEnd);
            emit(WORD, Word.NIL);
            return isGood;
        }

        private boolean catching(int parts, int depth) {
            if (!evaluation(heap.car(parts), depth)) {
                return false;
            }
            int toEnd = leap(CATCH);
            boolean isGood = body(heap.cdr(parts), depth);
            emit(END_CATCH);
            land(toEnd);
            return isGood;
        }

        private boolean closure(int parts, int depth) {
            int parameters = heap.car(parts);
            if (!areParameters(parameters)) {
                return false;
            }
            int toEnd = leap(CLOSE);
            emit(heap.listLength(parameters));
            scopes.push(parameters);
            boolean isGood = body(heap.cdr(parts), depth);
            scopes.pop();
            emit(RETURN);
            land(toEnd);
            return isGood;
        }

        private boolean areParameters(int list) {
            int length = heap.listLength(list);
            if (list != Word.NIL && length == 0 || length > PLACES) {
                return false;
            }
            int rest = list;
            for (int i = 0; i < length; i++) {
                int symbol = heap.car(rest);
                rest = heap.cdr(rest);
                if (Word.tag(symbol) != Word.SYMBOL || indexIn(rest, symbol) >= 0) {
                    return false;
                }
            }
            return true;
        }

        private int indexIn(int list, int symbol) {
            int rest = list;
            for (int i = 0; i < PLACES && Word.tag(rest) == Word.CELL; i++) {
                if (heap.car(rest) == symbol) {
                    return i;
                }
                rest = heap.cdr(rest);
            }
            return -1;
        }

        /** Emits one of two instructions, by whether a frame will have the symbol. */
        private void emitFor(int symbol, int ofOwn, int ofLocal) {
            for (int out = 0; out < scopes.height; out++) {
                int index = indexIn(scopes.peek(out), symbol);
                if (index >= 0) {
                    emit(ofLocal, out * PLACES + index);
                    return;
                }
            }
            emit(ofOwn, Word.held(symbol));
        }
    }

    /** A row of tagged words, the newest on top. */
    private static final class Stack {
        final int[] words;
        int height;

        Stack(int most) {
            words = new int[Math.max(most, 0)];
        }

        void push(int word) {
            if (height < words.length) {
                words[height] = word;
                height++;
            }
        }

        int pop() {
            int word = peek(0);
            cut(height - 1);
            return word;
        }

        /** The word that stands so many below the newest. */
        int peek(int below) {
            return at(height - 1 - below);
        }

        int at(int index) {
            return index >= 0 && index < height && index < words.length ? words[index] : Word.NIL;
        }

        void cut(int newHeight) {
            if (newHeight >= 0 && newHeight < height) {
                height = newHeight;
            }
        }
    }

    /** Runs the instructions of a form. */
    private static final class Runner {
        private static final int MOST_STEPS = 1000;
        private static final int MOST_CALLS = 30;
        /** A frame and where to return to. */
        private static final int CALL_WORDS = 2;
        /** A tag, and the heights of the values and of the calls and where to go on when something is thrown. */
        private static final int CATCH_WORDS = 4;
        /** Within a body at most 12 lists are open, each with at most 4 values that wait and one more. */
        private static final int MOST_VALUES = (MOST_CALLS + 1) * 50;
        private static final int MOST_CATCHES = (MOST_CALLS + 1) * 12;
        private static final int MOST_SHIFT = 15;
        private static final int MOST_LENGTH = 7;

        private final Heap heap;
        private final Symbols symbols;
        private final Queue input;
        private final Printer printer;
        private final Coder coder;
        private final Stack values = new Stack(MOST_VALUES);
        private final Stack calls = new Stack(MOST_CALLS * CALL_WORDS);
        private final Stack catches = new Stack(MOST_CATCHES * CATCH_WORDS);
        private int pc;
        private boolean isHalted;
        private int fault;
        /** The words for which an instruction found no room. */
        private int wanted;
        int steps;
        int mostCalls;
        int valued;
        int failed;

        Runner(Heap heap, Symbols symbols, Queue input, Printer printer) {
            this.heap = heap;
            this.symbols = symbols;
            this.input = input;
            this.printer = printer;
            coder = new Coder(heap, symbols);
        }

        /** Runs a form; answers its fault. */
        int run(int form) {
            int start = coder.compile(form);
            if (start < 0) {
                failed++;
                return ARGUMENT;
            }
            begin(start);
            for (int i = 0; i < MANY && !isHalted && fault == NO_FAULT; i++) {
                int before = pc;
                wanted = 0;
                advance();
                if (wanted > 0) {
                    // an instruction that found no room has changed nothing, so it can be done again
                    pc = before;
                    keepLive();
                    fault = heap.hasRoom(wanted) ? NO_FAULT : STATE;
                }
            }
            end();
            return fault;
        }

        private void begin(int start) {
            pc = start;
            isHalted = false;
            fault = NO_FAULT;
            steps = 0;
            mostCalls = 0;
        }

        private void end() {
            if (fault == NO_FAULT) {
                symbols.setWord(Symbols.IT, values.peek(0));
                valued++;
            } else {
                failed++;
            }
            values.cut(0);
            calls.cut(0);
            catches.cut(0);
        }

        /** A collection. */
        void keepLive() {
            heap.startMove();
            heap.moveRow(symbols.words, symbols.size);
            heap.moveRow(values.words, values.height);
            heap.moveRow(calls.words, calls.height);
            heap.moveRow(catches.words, catches.height);
            heap.endMove();
        }

        private int operand() {
            int word = coder.at(pc);
            pc++;
            return word;
        }

        private void advance() {
            int instruction = operand();
            switch (instruction) {
                case Coder.STEP:
                    countStep();
                    break;
                case Coder.WORD:
                    values.push(operand());
                    break;
                case Coder.OWN_VALUE:
                    pushOwn(operand());
                    break;
                case Coder.SET_OWN:
                    symbols.setWord(operand(), values.peek(0));
                    break;
                case Coder.LOCAL_VALUE:
                    values.push(heap.at(addressOf(operand())));
                    break;
                case Coder.SET_LOCAL:
                    heap.put(addressOf(operand()), values.peek(0));
                    break;
                case Coder.DROP:
                    values.pop();
                    break;
                case Coder.JUMP:
                    pc = operand();
                    break;
                case Coder.JUMP_IF_NIL:
                    jumpIfNil(operand());
                    break;
                case Coder.APPLY:
                    int operator = operand();
                    int parts = operand();
                    settle(answerOf(Operator.at(operator), parts), parts);
                    break;
                default:
                    advanceControl(instruction);
                    break;
            }
        }

        private void advanceControl(int instruction) {
            switch (instruction) {
                case Coder.CLOSE:
                    makeClosure(operand());
                    break;
                case Coder.CALL:
                    enter(operand());
                    break;
                case Coder.RETURN:
                    pc = Word.held(calls.pop());
                    calls.pop();
                    break;
                case Coder.CATCH:
                    beginCatch(operand());
                    break;
                case Coder.END_CATCH:
                    catches.cut(catches.height - CATCH_WORDS);
                    break;
                case Coder.THROW:
                    throwValue();
                    break;
                default:
                    isHalted = true;
                    break;
            }
        }

        private void countStep() {
            if (steps >= MOST_STEPS) {
                fault = STATE;
            } else {
                steps++;
            }
        }

        private void jumpIfNil(int to) {
            if (values.pop() == Word.NIL) {
                pc = to;
            }
        }

        private void pushOwn(int symbol) {
            int word = symbols.word(symbol);
            if (word == Word.NONE) {
                fault = ELEMENT;
            } else {
                values.push(word);
            }
        }

        /** The frame of the call whose body is evaluated; NIL outside of all calls. */
        private int frameHere() {
            return calls.peek(1);
        }

        private int addressOf(int place) {
            int frame = frameHere();
            for (int out = place / Coder.PLACES; out > 0; out--) {
                frame = heap.at(Word.held(frame));
            }
            return Word.held(frame) + 2 + place % Coder.PLACES;
        }

        /** Whether something of that length can be made now; if not, it is wanted. */
        private boolean isRoomFor(int length) {
            if (heap.hasRoom(length)) {
                return true;
            }
            wanted = length;
            return false;
        }

        private void makeClosure(int end) {
            if (!isRoomFor(2)) {
                return;
            }
            int address = heap.make(2);
            heap.put(address, Word.of(Word.NUMBER, pc));
            heap.put(address + 1, frameHere());
            values.push(Word.of(Word.CLOSURE, address));
            pc = end;
        }

        private void enter(int parts) {
            int closure = Word.held(values.peek(parts));
            int entry = Word.held(heap.at(closure));
            if (Word.tag(values.peek(parts)) != Word.CLOSURE || coder.at(entry) != parts) {
                fault = UNSUPPORTED;
            } else if (calls.height >= MOST_CALLS * CALL_WORDS) {
                fault = STATE;
            } else if (isRoomFor(2 + parts)) {
                int frame = heap.make(2 + parts);
                heap.put(frame, heap.at(closure + 1));
                heap.put(frame + 1, Word.of(Word.NUMBER, parts));
                for (int i = 0; i < parts; i++) {
                    heap.put(frame + 2 + i, values.peek(parts - 1 - i));
                }
                // the parts are no longer live while the body is evaluated
                values.cut(values.height - 1 - parts);
                calls.push(Word.of(Word.FRAME, frame));
                calls.push(Word.of(Word.NUMBER, pc));
                mostCalls = Math.max(mostCalls, calls.height / CALL_WORDS);
                pc = entry + 1;
            }
        }

        private void beginCatch(int end) {
            int tag = values.pop();
            catches.push(tag);
            catches.push(Word.of(Word.NUMBER, values.height));
            catches.push(Word.of(Word.NUMBER, calls.height));
            catches.push(Word.of(Word.NUMBER, end));
        }

        private void throwValue() {
            int value = values.peek(0);
            int tag = values.peek(1);
            int record = catches.height - CATCH_WORDS;
            while (record >= 0 && catches.at(record) != tag) {
                record -= CATCH_WORDS;
            }
            if (record < 0) {
                fault = ELEMENT;
                return;
            }
            values.cut(Word.held(catches.at(record + 1)));
            calls.cut(Word.held(catches.at(record + 2)));
            pc = Word.held(catches.at(record + 3));
            catches.cut(record);
            values.push(value);
        }

        /** The answer takes the place of the parts, if it came to one. */
        private void settle(int answer, int parts) {
            if (fault == NO_FAULT && wanted == 0) {
                values.cut(values.height - parts);
                values.push(answer);
            }
        }

        private int answerOf(Operator operator, int parts) {
            int a = values.peek(parts - 1);
            int b = values.peek(parts - 2);
            switch (operator) {
                case CAR:
                    return partOf(a, 0);
                case CDR:
                    return partOf(a, 1);
                case CONS:
                    return newCell(a, b);
                case LIST:
                    return newList(parts);
                case RCA:
                    return replaced(a, 0, b);
                case RCD:
                    return replaced(a, 1, b);
                case ATOM:
                    return truth(Word.tag(a) != Word.CELL);
                case EQ:
                    return truth(a == b);
                case VEC:
                    return newVector(a, b);
                case REF:
                    return heap.at(indexed(a, b));
                case PUT:
                    heap.put(indexed(a, b), values.peek(0));
                    return values.peek(0);
                case LEN:
                    return lengthOf(a);
                case PRINT:
                    printer.write(a, 0);
                    printer.endLine();
                    return a;
                case GET:
                    return input.size == 0 ? Word.NIL : Word.of(Word.NUMBER, input.removeOldest());
                default:
                    return computed(operator, a, b);
            }
        }

        private int failing(int newFault) {
            fault = newFault;
            return Word.NIL;
        }

        private static int truth(boolean isTrue) {
            return isTrue ? Word.of(Word.SYMBOL, Symbols.T) : Word.NIL;
        }

        private int partOf(int word, int part) {
            switch (Word.tag(word)) {
                case Word.NIL:
                    return Word.NIL;
                case Word.CELL:
                    return heap.at(Word.held(word) + part);
                default:
                    return failing(UNSUPPORTED);
            }
        }

        private int replaced(int cell, int part, int word) {
            if (Word.tag(cell) != Word.CELL) {
                return failing(UNSUPPORTED);
            }
            heap.replace(Word.held(cell) + part, word);
            return cell;
        }

        private int newCell(int car, int cdr) {
            if (!isRoomFor(2)) {
                return Word.NIL;
            }
            int address = heap.make(2);
            heap.put(address, car);
            heap.put(address + 1, cdr);
            return Word.of(Word.CELL, address);
        }

        private int newList(int parts) {
            if (!isRoomFor(2 * parts)) {
                return Word.NIL;
            }
            int list = Word.NIL;
            for (int i = 0; i < parts; i++) {
                int address = heap.make(2);
                heap.put(address, values.peek(i));
                heap.put(address + 1, list);
                list = Word.of(Word.CELL, address);
            }
            return list;
        }

        private int newVector(int number, int word) {
            int length = Word.held(number);
            if (Word.tag(number) != Word.NUMBER || length < 0 || length > MOST_LENGTH) {
                return failing(UNSUPPORTED);
            }
            if (!isRoomFor(1 + length)) {
                return Word.NIL;
            }
            int address = heap.make(1 + length);
            heap.put(address, number);
            for (int i = 1; i <= length; i++) {
                heap.put(address + i, word);
            }
            return Word.of(Word.VECTOR, address);
        }

        /** The address of a vector's value; -1 with a fault if there is none. */
        private int indexed(int vector, int number) {
            if (Word.tag(vector) != Word.VECTOR || Word.tag(number) != Word.NUMBER) {
                fault = UNSUPPORTED;
                return -1;
            }
            int index = Word.held(number);
            if (index < 0 || index >= heap.vectorLength(vector)) {
                fault = INDEX;
                return -1;
            }
            return Word.held(vector) + 1 + index;
        }

        private int lengthOf(int vector) {
            if (Word.tag(vector) != Word.VECTOR) {
                return failing(UNSUPPORTED);
            }
            return Word.of(Word.NUMBER, heap.vectorLength(vector));
        }

        private int computed(Operator operator, int first, int second) {
            if (Word.tag(first) != Word.NUMBER || Word.tag(second) != Word.NUMBER) {
                return failing(UNSUPPORTED);
            }
            int a = Word.held(first);
            int b = Word.held(second);
            switch (operator) {
                case ADD:
                    return ranged(a + b);
                case SUBTRACT:
                    return ranged(a - b);
                case MULTIPLY:
                    return ranged(a * b);
                case DIVIDE:
                    return b == 0 ? failing(ARITHMETIC) : ranged(a / b);
                case LESS:
                    return truth(a < b);
                case AND:
                    return ranged(a & b);
                case OR:
                    return ranged(a | b);
                case XOR:
                    return ranged(a ^ b);
                default:
                    return shifted(a, b);
            }
        }

        private int ranged(int number) {
            return isInRange(number) ? Word.of(Word.NUMBER, number) : failing(ARITHMETIC);
        }

        private int shifted(int number, int left) {
            if (left < -MOST_SHIFT || left > MOST_SHIFT) {
                return failing(UNSUPPORTED);
            }
            int bits = number & 0xffff;
            int gone = left >= 0 ? bits << left : bits >> -left;
            return Word.of(Word.NUMBER, (short) gone);
        }
    }

    /** A row with an end: what came first goes first. */
    private static final class Queue {
        private final int[] row;
        private int oldest;
        int size;

        Queue(int most) {
            row = new int[Math.max(most, 0)];
        }

        boolean isFull() {
            return size >= row.length;
        }

        void add(int number) {
            int at = oldest + size;
            if (at >= row.length) {
                at -= row.length;
            }
            if (size < row.length && at >= 0 && at < row.length) {
                row[at] = number;
                size++;
            }
        }

        int removeOldest() {
            if (size <= 0 || oldest < 0 || oldest >= row.length) {
                return 0;
            }
            int number = row[oldest];
            oldest = oldest + 1 == row.length ? 0 : oldest + 1;
            size--;
            return number;
        }
    }

    /** Writes values to the output until it is full. */
    private static final class Printer {
        private static final int DEEPEST = 8;
        private static final int NEW_LINE = 10;

        private final Heap heap;
        private final Symbols symbols;
        private final Queue output;

        Printer(Heap heap, Symbols symbols, Queue output) {
            this.heap = heap;
            this.symbols = symbols;
            this.output = output;
        }

        void endLine() {
            output.add(NEW_LINE);
        }

        /** Writes a value that stands within so many others. */
        void write(int word, int depth) {
            switch (Word.tag(word)) {
                case Word.NUMBER:
                    writeNumber(Word.held(word));
                    break;
                case Word.SYMBOL:
                    writeName(Word.held(word));
                    break;
                case Word.CELL:
                    writeList(word, depth);
                    break;
                case Word.VECTOR:
                    writeVector(word, depth);
                    break;
                case Word.CLOSURE:
                    output.add('#');
                    break;
                default:
                    writeText("nil");
                    break;
            }
        }

        private void writeText(String text) {
            for (int i = 0; i < text.length(); i++) {
                output.add(text.charAt(i));
            }
        }

        private void writeNumber(int number) {
            if (number < 0) {
                output.add('-');
            }
            int rest = Math.abs(number);
            int unit = 10000;
            while (unit > 1 && unit > rest) {
                unit /= 10;
            }
            while (unit > 0) {
                output.add('0' + rest / unit % 10);
                unit /= 10;
            }
        }

        private void writeName(int symbol) {
            for (int i = 0; i < symbols.length(symbol); i++) {
                output.add(symbols.letter(symbol, i));
            }
        }

        private void writeList(int list, int depth) {
            if (depth >= DEEPEST) {
                output.add('*');
                return;
            }
            output.add('(');
            write(heap.car(list), depth + 1);
            int rest = heap.cdr(list);
            // a list may run in a circle: then the output gets full, a character at least for each cell
            for (int i = 0; i < MOST_OUTPUT && Word.tag(rest) == Word.CELL && !output.isFull(); i++) {
                output.add(' ');
                write(heap.car(rest), depth + 1);
                rest = heap.cdr(rest);
            }
            if (rest != Word.NIL && !output.isFull()) {
                writeText(" . ");
                write(rest, depth + 1);
            }
            output.add(')');
        }

        private void writeVector(int vector, int depth) {
            if (depth >= DEEPEST) {
                output.add('*');
                return;
            }
            output.add('[');
            int length = heap.vectorLength(vector);
            for (int i = 0; i < length && !output.isFull(); i++) {
                if (i > 0) {
                    output.add(' ');
                }
                write(heap.at(Word.held(vector) + 1 + i), depth + 1);
            }
            output.add(']');
        }
    }
}
