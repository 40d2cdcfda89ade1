/**
 * A trimmer of calls: it reads programs of functions, puts small functions where they are called,
 * folds numbers, turns calls at the end into jumps, makes code for a machine of frames and runs it.
 *
 * Expressions are held in prefix order (a node, then its operands from the left), because all that is
 * done to them is then one walk over a row, without pointers and without deep recursion.
 */
public final class TailTrimmer {
    private static final int TEXT_BYTES = 3000;
    private static final int MOST_FUNCTIONS = 24;
    private static final int MOST_PARAMETERS = 6;
    private static final int MOST_READ_NODES = 400;
    private static final int MOST_LETS = 40;
    private static final int MOST_OPEN = 30;
    private static final int MOST_BUDGET = 500;
    private static final int MOST_NODES = 500;
    private static final int MOST_VARIABLES = 120;
    private static final int MOST_WRITTEN = 6000;
    private static final int MOST_WORDS = 20000;
    private static final int MOST_STEPS = 20000;
    private static final int MOST_PUT = 200;
    /** A call takes three bytes of the text at least. */
    private static final int MOST_CALLS = TEXT_BYTES / 3;
    /** A node makes one instruction, each if one more (three nodes at least are below it), and one RETURN. */
    private static final int MOST_CODE = MOST_NODES + MOST_NODES / 3 + 2;

    private static final int NONE = -1;
    private static final int OUTSIDE = -2;
    private static final int NO_ROOM = -4;
    private static final int FAULTY = -10;

    private static final int MODE_INLINE = 1;
    private static final int MODE_FOLD = 2;
    private static final int MODE_TAILS = 4;
    private static final int MOST_MODE = 7;

    private static final int NUMBER = 1;
    private static final int VARIABLE = 2;
    private static final int ADD = 3;
    private static final int SUBTRACT = 4;
    private static final int MULTIPLY = 5;
    private static final int DIVIDE = 6;
    private static final int REST = 7;
    private static final int LESS = 8;
    private static final int EQUAL = 9;
    private static final int NEGATE = 10;
    private static final int PUT = 11;
    private static final int SEQUENCE = 12;
    private static final int IF = 13;
    private static final int LET = 14;
    private static final int CALL = 15;

    /** Instructions 3 .. 11 have the numbers of their nodes. */
    private static final int DO_CONST = 1;
    private static final int DO_LOAD = 2;
    private static final int DO_DROP = 12;
    private static final int DO_STORE = 13;
    private static final int DO_ELSE = 14;
    private static final int DO_JUMP = 15;
    private static final int DO_CALL = 16;
    private static final int DO_RETURN = 17;
    private static final int DO_AGAIN = 18;
    private static final int DO_TAIL = 19;

    private static final int DONE = 1;
    private static final int OVERFLOW = 2;
    private static final int DIVIDED = 3;
    private static final int SPENT = 4;
    private static final int PUT_TOO_MUCH = 5;

    private final byte[] text = new byte[TEXT_BYTES];
    private final int[] arguments = new int[MOST_PARAMETERS];
    private final Reader reader = new Reader();
    private final Graph graph = new Graph();
    private final Inliner inliner = new Inliner();
    private final Folder folder = new Folder();
    private final Coder coder = new Coder();
    private final Bounds bounds = new Bounds();
    private final Writer writer = new Writer();
    private final Machine machine = new Machine();
    private final Program output = new Program(MOST_FUNCTIONS * MOST_NODES, MOST_FUNCTIONS * MOST_CODE);
    /** No node and no RETURN stands for less than a byte of the text, nor an if for less than three. */
    private Program source = new Program(TEXT_BYTES, 2 * TEXT_BYTES);
    /** A text is read into this one, so that a fault leaves the source as it was. */
    private Program fresh = new Program(TEXT_BYTES, 2 * TEXT_BYTES);
    private int textLength = 0;
    private int faultPlace = NONE;
    private int inlineBudget = 20;

    public TailTrimmer() {
    }

    public int feed(long v, int n) {
        if (n < 0 || n > 8) {
            return OUTSIDE;
        }
        if (n == 0) {
            textLength = 0;
            return 0;
        }
        if (textLength + n > TEXT_BYTES) {
            return NO_ROOM;
        }
        for (int i = n - 1; i >= 0; i--) {
            text[textLength] = (byte) (v >> (8 * i));
            textLength++;
        }
        return textLength;
    }

    public int read() {
        int fault = reader.readInto(fresh, text, textLength);
        if (fault != 0) {
            faultPlace = reader.faultPlace();
            return FAULTY - fault;
        }
        faultPlace = NONE;
        Program old = source;
        source = fresh;
        fresh = old;
        graph.draw(source);
        coder.encode(source, false);
        bounds.find(source);
        makeOutput(0);
        return source.count;
    }

    public int place() {
        return faultPlace;
    }

    public int budget(int b) {
        if (b < 0 || b > MOST_BUDGET) {
            return OUTSIDE;
        }
        int before = inlineBudget;
        inlineBudget = b;
        return before;
    }

    public int trim(int mode) {
        if (mode < 0 || mode > MOST_MODE) {
            return OUTSIDE;
        }
        return makeOutput(mode);
    }

    public int function(int which, int f, int what) {
        Program p = programOf(which);
        if (p == null || !p.has(f)) {
            return NONE;
        }
        switch (what) {
            case 0:
                return p.size[f];
            case 1:
                return p.parameters[f];
            case 2:
                return p.variables[f];
            case 3:
                return p.countCalls(f);
            case 4:
                return p.frame(f);
            case 5:
                return p.codeSize[f];
            case 6:
                return p.bound[f];
            case 7:
                return p.replaced[f];
            default:
                return OUTSIDE;
        }
    }

    public int calls(int f, int g, int what) {
        if (!source.has(f) || !source.has(g)) {
            return NONE;
        }
        if (what == 0) {
            return graph.doesCall(f, g) ? 1 : 0;
        }
        if (what == 1) {
            return graph.inOneCircle(f, g) ? 1 : 0;
        }
        return OUTSIDE;
    }

    public int order(int k) {
        return source.has(k) ? graph.inOrder[k] : NONE;
    }

    public int write(int which, int f) {
        Program p = programOf(which);
        if (p == null || !p.has(f)) {
            return NONE;
        }
        return writer.writeOut(p, f) ? writer.length : NO_ROOM;
    }

    public int octet(int i) {
        return writer.byteAt(i);
    }

    public int code(int which, int f, int i, int what) {
        Program p = programOf(which);
        if (p == null || !p.has(f) || i < 0 || i >= p.codeSize[f]) {
            return NONE;
        }
        if (what == 0) {
            return p.operation[p.codeStart[f] + i];
        }
        if (what == 1) {
            return p.operand[p.codeStart[f] + i];
        }
        return OUTSIDE;
    }

    public int argument(int i, int v) {
        if (i < 0 || i >= MOST_PARAMETERS) {
            return OUTSIDE;
        }
        int before = arguments[i];
        arguments[i] = v;
        return before;
    }

    public int run(int which, int f, int words, int steps) {
        Program p = programOf(which);
        if (p == null || !p.has(f)) {
            return NONE;
        }
        if (words < 0 || words > MOST_WORDS || steps < 0 || steps > MOST_STEPS) {
            return OUTSIDE;
        }
        machine.load(p, words);
        return machine.perform(f, arguments, steps);
    }

    public int told(int what) {
        switch (what) {
            case 0:
                return machine.outcome;
            case 1:
                return machine.steps;
            case 2:
                return machine.mostWords;
            case 3:
                return machine.putCount;
            default:
                return OUTSIDE;
        }
    }

    public int putAt(int i) {
        return i >= 0 && i < machine.putCount ? machine.puts[i] : 0;
    }

    private Program programOf(int which) {
        if (which == 0) {
            return source;
        }
        return which == 1 ? output : null;
    }

    private int makeOutput(int mode) {
        // No SIZE is as small as -1: with that budget the inliner copies and replaces nothing.
        int limit = (mode & MODE_INLINE) != 0 ? inlineBudget : -1;
        int replaced = inliner.inlineAll(source, output, graph, limit);
        if ((mode & MODE_FOLD) != 0) {
            folder.foldAll(output);
        }
        coder.encode(output, (mode & MODE_TAILS) != 0);
        bounds.find(output);
        return replaced;
    }

    /** The caller has looked at the divisor: DIVIDE and REST by 0 are not asked for and are 0 here. */
    private static int operate(int kind, int a, int b) {
        switch (kind) {
            case ADD:
                return a + b;
            case SUBTRACT:
                return a - b;
            case MULTIPLY:
                return a * b;
            case DIVIDE:
                return b == 0 ? 0 : a / b;
            case REST:
                return b == 0 ? 0 : a % b;
            case LESS:
                return a < b ? 1 : 0;
            case EQUAL:
                return a == b ? 1 : 0;
            default:
                return 0;
        }
    }

    private static boolean dividesByZero(int kind, int divisor) {
        return divisor == 0 && (kind == DIVIDE || kind == REST);
    }

    /** Makes of "comes to by one step" "comes to by one step or more"; a row's bits are functions. */
    private static void closeOver(int[] reach, int count) {
        for (int through = 0; through < count; through++) {
            for (int from = 0; from < count; from++) {
                if (hasBit(reach[from], through)) {
                    reach[from] |= reach[through];
                }
            }
        }
    }

    private static boolean hasBit(int bits, int i) {
        return (bits >> i & 1) != 0;
    }

    /** Functions with their expressions in prefix order, and their code. */
    private static final class Program {
        final int[] kind;
        final int[] value;
        final long[] name = new long[MOST_FUNCTIONS];
        final int[] parameters = new int[MOST_FUNCTIONS];
        final int[] variables = new int[MOST_FUNCTIONS];
        final int[] start = new int[MOST_FUNCTIONS];
        final int[] size = new int[MOST_FUNCTIONS];
        final int[] replaced = new int[MOST_FUNCTIONS];
        final int[] operation;
        final int[] operand;
        final int[] codeStart = new int[MOST_FUNCTIONS];
        final int[] codeSize = new int[MOST_FUNCTIONS];
        final int[] slots = new int[MOST_FUNCTIONS];
        final int[] temps = new int[MOST_FUNCTIONS];
        final int[] bound = new int[MOST_FUNCTIONS];
        int count = 0;

        Program(int nodes, int instructions) {
            kind = new int[nodes];
            value = new int[nodes];
            operation = new int[instructions];
            operand = new int[instructions];
        }

        boolean has(int f) {
            return f >= 0 && f < count;
        }

        int find(long wanted) {
            for (int f = 0; f < count; f++) {
                if (name[f] == wanted) {
                    return f;
                }
            }
            return NONE;
        }

        int kids(int nodeKind, int nodeValue) {
            switch (nodeKind) {
                case NUMBER:
                case VARIABLE:
                    return 0;
                case NEGATE:
                case PUT:
                    return 1;
                case IF:
                    return 3;
                case CALL:
                    return nodeValue >= 0 && nodeValue < count ? parameters[nodeValue] : 0;
                default:
                    return 2;
            }
        }

        int countCalls(int f) {
            int found = 0;
            for (int i = start[f]; i < start[f] + size[f]; i++) {
                if (kind[i] == CALL) {
                    found++;
                }
            }
            return found;
        }

        int frame(int f) {
            return 2 + slots[f] + temps[f];
        }
    }

    /** The tokens of a text, each looked for only when it is wanted; behind a fault there are none. */
    private static final class Tokens {
        static final int END = 0;
        static final int NAME = 1;
        static final int DIGITS = 2;
        static final int DEF = 3;
        static final int LET_WORD = 4;
        static final int IN = 5;
        static final int IF_WORD = 6;
        static final int THEN = 7;
        static final int ELSE = 8;
        static final int PUT_WORD = 9;
        static final int TWO_EQUALS = 10;
        static final int STOPPED = 11;
        /** All other tokens are signs of one byte and have that byte as their kind. */
        static final String SIGNS = "(),;=+-*/%<.";
        /** def let in if then else put, as names are packed. */
        static final long[] WORDS = {
            0x646566L, 0x6c6574L, 0x696eL, 0x6966L, 0x7468656eL, 0x656c7365L, 0x707574L};
        static final int NAME_SIGNS = 8;
        static final int NUMBER_DIGITS = 10;
        static final long MOST_NUMBER = 2147483647L;

        private byte[] text = null;
        private int length = 0;
        private int at = 0;
        private boolean held = false;
        private int kind = END;
        /** Of the latest token: where it begins, and what it says if it is a number or a name. */
        int place = 0;
        int number = 0;
        long name = 0L;
        /** The first fault, 0 if there is none. */
        int fault = 0;
        int faultPlace = NONE;

        void begin(byte[] bytes, int byteCount) {
            text = bytes;
            length = bytes == null ? 0 : Math.min(byteCount, bytes.length);
            at = 0;
            held = false;
            fault = 0;
            faultPlace = NONE;
        }

        int peek() {
            if (fault == 0 && !held) {
                held = true;
                while (at < length && isBlank(text[at])) {
                    at++;
                }
                place = at;
                if (at >= length) {
                    kind = END;
                } else if (isLetter(text[at])) {
                    scanName();
                } else if (isDigit(text[at])) {
                    scanNumber();
                } else {
                    scanSign();
                }
            }
            return fault == 0 ? kind : STOPPED;
        }

        boolean isAt(int wanted) {
            return peek() == wanted;
        }

        void take() {
            held = false;
        }

        /** Takes a token that must stand here. */
        boolean need(int wanted) {
            if (peek() != wanted) {
                failAt(2, place);
                return false;
            }
            take();
            return true;
        }

        void failHere(int number) {
            failAt(number, place);
        }

        /** The first fault counts. */
        void failAt(int number, int where) {
            if (fault == 0) {
                fault = number;
                faultPlace = where;
            }
        }

        private void scanName() {
            name = 0L;
            while (at < length && (isLetter(text[at]) || isDigit(text[at]))) {
                name = name << 8 | text[at];
                at++;
            }
            if (at - place > NAME_SIGNS) {
                failAt(1, place);
            }
            kind = NAME;
            for (int i = 0; i < WORDS.length; i++) {
                if (name == WORDS[i]) {
                    kind = DEF + i;
                }
            }
        }

        private void scanNumber() {
            long sum = 0L;
            while (at < length && isDigit(text[at])) {
                if (at - place < NUMBER_DIGITS) {
                    sum = sum * 10 + (text[at] - '0');
                }
                at++;
            }
            if (at - place > NUMBER_DIGITS || sum > MOST_NUMBER) {
                failAt(1, place);
            }
            kind = DIGITS;
            number = (int) sum;
        }

        private void scanSign() {
            int sign = text[at];
            if (sign < 0 || SIGNS.indexOf((char) sign) < 0) {
                failAt(1, place);
                return;
            }
            kind = sign;
            at++;
            if (sign == '=' && at < length && text[at] == '=') {
                kind = TWO_EQUALS;
                at++;
            }
        }

        private static boolean isBlank(int c) {
            return c == 9 || c == 10 || c == 13 || c == 32;
        }

        private static boolean isLetter(int c) {
            return c >= 'a' && c <= 'z';
        }

        private static boolean isDigit(int c) {
            return c >= '0' && c <= '9';
        }
    }

    /** Reads a text into a program; its recursion goes as deep as things are open, at most MOST_OPEN. */
    private static final class Reader {
        private final Tokens tokens = new Tokens();
        private final long[] callName = new long[MOST_CALLS];
        private final int[] callPlace = new int[MOST_CALLS];
        private final int[] callArguments = new int[MOST_CALLS];
        private final int[] callTarget = new int[MOST_CALLS];
        private final long[] seenName = new long[MOST_PARAMETERS + MOST_LETS];
        private final int[] seenVariable = new int[MOST_PARAMETERS + MOST_LETS];
        private Program program = null;
        private int callCount = 0;
        private int seen = 0;
        private int open = 0;
        private int used = 0;
        private int nodes = 0;
        private int variables = 0;
        private int lets = 0;

        int faultPlace() {
            return tokens.faultPlace;
        }

        /** The fault, or 0. */
        int readInto(Program p, byte[] text, int length) {
            tokens.begin(text, length);
            program = p;
            p.count = 0;
            callCount = 0;
            used = 0;
            for (int i = 0; i <= TEXT_BYTES && tokens.fault == 0 && !tokens.isAt(Tokens.END); i++) {
                readDefinition();
            }
            if (tokens.fault == 0) {
                findTargets();
            }
            if (tokens.fault == 0) {
                setTargets();
            }
            return tokens.fault;
        }

        private void readDefinition() {
            int f = program.count;
            seen = 0;
            open = 0;
            nodes = 0;
            variables = 0;
            lets = 0;
            if (!readFunctionName() || !readParameters() || !tokens.need('=')) {
                return;
            }
            program.parameters[f] = variables;
            program.replaced[f] = 0;
            program.start[f] = used;
            readExpression();
            if (tokens.isAt('.') && nodes > MOST_READ_NODES) {
                tokens.failHere(5);
            }
            tokens.need('.');
            program.size[f] = used - program.start[f];
            program.variables[f] = variables;
        }

        private boolean readFunctionName() {
            if (!tokens.need(Tokens.DEF)) {
                return false;
            }
            if (tokens.isAt(Tokens.NAME)) {
                if (program.find(tokens.name) != NONE) {
                    tokens.failHere(3);
                } else if (program.count >= MOST_FUNCTIONS) {
                    tokens.failHere(5);
                }
            }
            if (!tokens.need(Tokens.NAME)) {
                return false;
            }
            program.name[program.count] = tokens.name;
            program.count++;
            return true;
        }

        private boolean readParameters() {
            if (!tokens.need('(')) {
                return false;
            }
            boolean more = !tokens.isAt(')');
            for (int i = 0; i <= MOST_PARAMETERS && more; i++) {
                if (tokens.isAt(Tokens.NAME)) {
                    checkParameterName();
                }
                if (!tokens.need(Tokens.NAME)) {
                    return false;
                }
                see(tokens.name, variables);
                variables++;
                more = tokens.isAt(',');
                if (more) {
                    tokens.take();
                }
            }
            return tokens.need(')');
        }

        private void checkParameterName() {
            if (findVariable(tokens.name) != NONE) {
                tokens.failHere(3);
            } else if (variables >= MOST_PARAMETERS) {
                tokens.failHere(5);
            }
        }

        private void see(long name, int variable) {
            if (seen < seenName.length) {
                seenName[seen] = name;
                seenVariable[seen] = variable;
                seen++;
            }
        }

        private int findVariable(long name) {
            for (int i = seen - 1; i >= 0; i--) {
                if (seenName[i] == name) {
                    return seenVariable[i];
                }
            }
            return NONE;
        }

        /** Whether one thing more may be open at the token here. */
        private boolean opens() {
            if (open >= MOST_OPEN) {
                tokens.failHere(5);
                return false;
            }
            open++;
            return true;
        }

        private void addNode(int kind, int value) {
            insertNode(used, kind, value);
        }

        /** Nodes above the limit are only counted: their function ends in a fault in any case. */
        private void insertNode(int at, int kind, int value) {
            nodes++;
            if (nodes > MOST_READ_NODES || used >= program.kind.length || at < 0 || at > used) {
                return;
            }
            System.arraycopy(program.kind, at, program.kind, at + 1, used - at);
            System.arraycopy(program.value, at, program.value, at + 1, used - at);
            program.kind[at] = kind;
            program.value[at] = value;
            used++;
        }

        private void readExpression() {
            // What stands behind a ; is read in the same turn, for there may be hundreds of them.
            for (int i = 0; i <= TEXT_BYTES; i++) {
                if (tokens.isAt(Tokens.LET_WORD)) {
                    readLet();
                    return;
                }
                if (tokens.isAt(Tokens.IF_WORD)) {
                    readIf();
                    return;
                }
                int first = used;
                readComparison();
                if (!tokens.isAt(';')) {
                    return;
                }
                tokens.take();
                insertNode(first, SEQUENCE, 0);
            }
        }

        private void readLet() {
            if (!opens()) {
                return;
            }
            tokens.take();
            if (tokens.isAt(Tokens.NAME) && lets >= MOST_LETS) {
                tokens.failHere(5);
            }
            if (!tokens.need(Tokens.NAME)) {
                return;
            }
            long name = tokens.name;
            int variable = variables;
            variables++;
            lets++;
            addNode(LET, variable);
            if (!tokens.need('=')) {
                return;
            }
            readExpression();
            if (!tokens.need(Tokens.IN)) {
                return;
            }
            int seenBefore = seen;
            see(name, variable);
            readExpression();
            seen = seenBefore;
            open--;
        }

        private void readIf() {
            if (!opens()) {
                return;
            }
            tokens.take();
            addNode(IF, 0);
            readExpression();
            if (!tokens.need(Tokens.THEN)) {
                return;
            }
            readExpression();
            if (!tokens.need(Tokens.ELSE)) {
                return;
            }
            readExpression();
            open--;
        }

        private void readComparison() {
            int first = used;
            readSum();
            if (tokens.isAt('<') || tokens.isAt(Tokens.TWO_EQUALS)) {
                insertNode(first, tokens.isAt('<') ? LESS : EQUAL, 0);
                tokens.take();
                readSum();
            }
        }

        private void readSum() {
            int first = used;
            readProduct();
            for (int i = 0; i < TEXT_BYTES && (tokens.isAt('+') || tokens.isAt('-')); i++) {
                insertNode(first, tokens.isAt('+') ? ADD : SUBTRACT, 0);
                tokens.take();
                readProduct();
            }
        }

        private void readProduct() {
            int first = used;
            readUnary();
            for (int i = 0; i < TEXT_BYTES && isProductSign(tokens.peek()); i++) {
                int sign = tokens.peek();
                insertNode(first, sign == '*' ? MULTIPLY : sign == '/' ? DIVIDE : REST, 0);
                tokens.take();
                readUnary();
            }
        }

        private static boolean isProductSign(int token) {
            return token == '*' || token == '/' || token == '%';
        }

        private void readUnary() {
            if (!tokens.isAt('-')) {
                readPart();
            } else if (opens()) {
                tokens.take();
                addNode(NEGATE, 0);
                readUnary();
                open--;
            }
        }

        private void readPart() {
            switch (tokens.peek()) {
                case Tokens.DIGITS:
                    addNode(NUMBER, tokens.number);
                    tokens.take();
                    return;
                case Tokens.NAME:
                    readName();
                    return;
                case Tokens.PUT_WORD:
                    tokens.take();
                    addNode(PUT, 0);
                    readBracketed();
                    return;
                default:
                    readBracketed();
            }
        }

        private void readBracketed() {
            if (!openBracket()) {
                return;
            }
            readExpression();
            tokens.need(')');
            open--;
        }

        private boolean openBracket() {
            if (tokens.isAt('(') && !opens()) {
                return false;
            }
            return tokens.need('(');
        }

        /** Variable and call in one method, for each method that a nested call goes through is open with it. */
        private void readName() {
            long name = tokens.name;
            int where = tokens.place;
            tokens.take();
            if (!tokens.isAt('(')) {
                addVariable(name, where);
                return;
            }
            int call = beginCall(name, where);
            if (call == NONE) {
                return;
            }
            int given = 0;
            boolean more = !tokens.isAt(')');
            for (int i = 0; i < TEXT_BYTES && more; i++) {
                readExpression();
                given++;
                more = tokens.isAt(',');
                if (more) {
                    tokens.take();
                }
            }
            callArguments[call] = given;
            tokens.need(')');
            open--;
        }

        private void addVariable(long name, int where) {
            int variable = findVariable(name);
            if (variable == NONE) {
                tokens.failAt(4, where);
            }
            addNode(VARIABLE, variable);
        }

        /** The call's number among the calls, or NONE. */
        private int beginCall(long name, int where) {
            int call = callCount;
            if (!openBracket() || call >= MOST_CALLS) {
                return NONE;
            }
            callCount++;
            callName[call] = name;
            callPlace[call] = where;
            addNode(CALL, call);
            return call;
        }

        private void findTargets() {
            for (int i = 0; i < callCount; i++) {
                int target = program.find(callName[i]);
                callTarget[i] = target;
                if (target == NONE) {
                    tokens.failAt(6, callPlace[i]);
                } else if (program.parameters[target] != callArguments[i]) {
                    tokens.failAt(7, callPlace[i]);
                }
            }
        }

        /** Till now a call's value was its number among the calls: its target could stand behind it. */
        private void setTargets() {
            for (int i = 0; i < used; i++) {
                if (program.kind[i] == CALL && program.value[i] < callCount) {
                    program.value[i] = callTarget[program.value[i]];
                }
            }
        }
    }

    /**
     * A walk over an expression that stops when a node is met, when one of its operands is behind it, and
     * when all are. The open nodes are kept on a stack of its own: expressions are deeper than calls may go.
     */
    private static final class Walk {
        static final int BEGIN = 0;
        static final int ENTER = 1;
        static final int BEHIND_KID = 2;
        static final int LEAVE = 3;
        /** Each node is met, left, and is behind for the one that has it. */
        static final int MOST_EVENTS = 3 * MOST_NODES;

        /** By level: the open nodes. Kind and value are kept, because folding writes over open nodes. */
        final int[] nodes = new int[MOST_NODES];
        final int[] kinds = new int[MOST_NODES];
        final int[] values = new int[MOST_NODES];
        /** By level: how many operands are behind, which is also the number of the one that comes. */
        final int[] done = new int[MOST_NODES];
        private final int[] wants = new int[MOST_NODES];
        int event = BEGIN;
        int level = 0;
        /** At BEHIND_KID: which operand it was. */
        int kid = 0;
        private Program program = null;
        private int next = 0;
        private int depth = 0;

        void begin(Program p, int f) {
            program = p;
            next = p.start[f];
            depth = 0;
            event = BEGIN;
        }

        /** Goes on to the next event; false when all is behind. */
        boolean advance() {
            if (event == LEAVE) {
                depth--;
                if (depth <= 0) {
                    return false;
                }
                event = BEHIND_KID;
                level = depth - 1;
                kid = done[level];
                done[level]++;
                return true;
            }
            if (depth > 0 && done[depth - 1] >= wants[depth - 1]) {
                event = LEAVE;
                level = depth - 1;
                return true;
            }
            return enterNext();
        }

        private boolean enterNext() {
            if (depth >= MOST_NODES || next >= program.kind.length) {
                return false;
            }
            event = ENTER;
            level = depth;
            nodes[level] = next;
            kinds[level] = program.kind[next];
            values[level] = program.value[next];
            wants[level] = program.kids(kinds[level], values[level]);
            done[level] = 0;
            depth++;
            next++;
            return true;
        }

        /** The operand that would come next is passed by. */
        void skipKid() {
            int wanted = 1;
            while (next < program.kind.length && wanted > 0) {
                wanted += program.kids(program.kind[next], program.value[next]) - 1;
                next++;
            }
            done[level]++;
        }
    }

    /** Which function calls which, in circles or not, and the order in which they are trimmed. */
    private static final class Graph {
        private final Walk walk = new Walk();
        final int[] inOrder = new int[MOST_FUNCTIONS];
        private final int[] called = new int[MOST_FUNCTIONS];
        private final int[] reach = new int[MOST_FUNCTIONS];
        /** Row f: whom f calls, each once, as they are met. */
        private final int[][] callee = new int[MOST_FUNCTIONS][MOST_FUNCTIONS];
        private final int[] callees = new int[MOST_FUNCTIONS];
        private int looked = 0;
        private int ordered = 0;

        void draw(Program p) {
            for (int f = 0; f < p.count; f++) {
                gather(p, f);
                reach[f] = called[f];
            }
            closeOver(reach, p.count);
            looked = 0;
            ordered = 0;
            for (int f = 0; f < p.count; f++) {
                look(f, 0);
            }
        }

        boolean doesCall(int f, int g) {
            return hasBit(called[f], g);
        }

        boolean inOneCircle(int f, int g) {
            return hasBit(reach[f], g) && hasBit(reach[g], f);
        }

        private void gather(Program p, int f) {
            called[f] = 0;
            callees[f] = 0;
            walk.begin(p, f);
            for (int n = 0; n < Walk.MOST_EVENTS && walk.advance(); n++) {
                if (walk.event == Walk.LEAVE && walk.kinds[walk.level] == CALL) {
                    addCallee(f, walk.values[walk.level]);
                }
            }
        }

        private void addCallee(int f, int g) {
            if (!hasBit(called[f], g) && callees[f] < MOST_FUNCTIONS) {
                called[f] |= 1 << g;
                callee[f][callees[f]] = g;
                callees[f]++;
            }
        }

        /** Each open look is at another function, so that it is never deeper than there are functions. */
        private void look(int f, int depth) {
            if (hasBit(looked, f) || depth >= MOST_FUNCTIONS) {
                return;
            }
            looked |= 1 << f;
            for (int i = 0; i < callees[f]; i++) {
                look(callee[f][i], depth + 1);
            }
            inOrder[ordered] = f;
            ordered++;
        }
    }

    /**
     * Copies expressions and puts small functions where they are called. A function is walked twice: whether
     * a call is replaced is known only behind its arguments, but its first let stands before them.
     */
    private static final class Inliner {
        private final Walk walk = new Walk();
        /** By a node's place in its function: the number that g's variable 0 gets, or NONE. */
        private final int[] base = new int[MOST_NODES];
        private Program source = null;
        private Program target = null;
        private Graph graph = null;
        private int limit = 0;
        private int size = 0;
        private int variables = 0;
        private int replaced = 0;
        private int to = 0;

        /** How many calls were replaced. */
        int inlineAll(Program from, Program into, Graph drawn, int sizeLimit) {
            source = from;
            target = into;
            graph = drawn;
            limit = sizeLimit;
            into.count = from.count;
            int total = 0;
            for (int k = 0; k < from.count; k++) {
                inlineIn(drawn.inOrder[k]);
                total += replaced;
            }
            return total;
        }

        private void inlineIn(int f) {
            size = source.size[f];
            variables = source.variables[f];
            replaced = 0;
            chooseCalls(f);
            target.start[f] = f * MOST_NODES;
            to = target.start[f];
            copyWithChosen(f);
            target.name[f] = source.name[f];
            target.parameters[f] = source.parameters[f];
            target.variables[f] = variables;
            target.size[f] = to - target.start[f];
            target.replaced[f] = replaced;
        }

        private void chooseCalls(int f) {
            walk.begin(source, f);
            for (int n = 0; n < Walk.MOST_EVENTS && walk.advance(); n++) {
                if (walk.event == Walk.LEAVE) {
                    int level = walk.level;
                    boolean call = walk.kinds[level] == CALL;
                    base[walk.nodes[level] - source.start[f]] = call ? choose(walk.values[level]) : NONE;
                }
            }
        }

        private void copyWithChosen(int f) {
            walk.begin(source, f);
            for (int n = 0; n < Walk.MOST_EVENTS && walk.advance(); n++) {
                int kind = walk.kinds[walk.level];
                int value = walk.values[walk.level];
                int first = base[walk.nodes[walk.level] - source.start[f]];
                if (first != NONE) {
                    replace(value, first);
                } else if (walk.event == Walk.ENTER) {
                    emit(kind, value);
                }
            }
        }

        /** At each event of a call of g that gives way: a let before each argument, g behind all. */
        private void replace(int g, int first) {
            int parameter = walk.event == Walk.BEHIND_KID ? walk.kid + 1 : 0;
            if (walk.event == Walk.LEAVE) {
                emitBody(g, first);
            } else if (parameter < source.parameters[g]) {
                emit(LET, first + parameter);
            }
        }

        private int choose(int g) {
            if (graph.inOneCircle(g, g) || target.size[g] > limit) {
                return NONE;
            }
            int newSize = size - 1 + source.parameters[g] + target.size[g];
            int newVariables = variables + target.variables[g];
            if (newSize > MOST_NODES || newVariables > MOST_VARIABLES) {
                return NONE;
            }
            int first = variables;
            size = newSize;
            variables = newVariables;
            replaced++;
            return first;
        }

        private void emitBody(int g, int first) {
            int end = target.start[g] + target.size[g];
            for (int i = target.start[g]; i < end; i++) {
                boolean named = target.kind[i] == VARIABLE || target.kind[i] == LET;
                emit(target.kind[i], named ? target.value[i] + first : target.value[i]);
            }
        }

        private void emit(int kind, int value) {
            if (to < target.kind.length) {
                target.kind[to] = kind;
                target.value[to] = value;
                to++;
            }
        }
    }

    /**
     * Folds an expression in its own place: what comes out is never longer than what was read, so that no
     * node is written over before it is met.
     */
    private static final class Folder {
        private final Walk walk = new Walk();
        /** By level: where the node's outcome begins, and where its second operand's does. */
        private final int[] first = new int[MOST_NODES];
        private final int[] second = new int[MOST_NODES];
        /** By level: whether the node has given way to one of its operands. */
        private final boolean[] gone = new boolean[MOST_NODES];
        private final boolean[] known = new boolean[MOST_VARIABLES];
        private final int[] number = new int[MOST_VARIABLES];
        private Program program = null;
        private int to = 0;

        void foldAll(Program p) {
            program = p;
            for (int f = 0; f < p.count; f++) {
                foldIn(f);
            }
        }

        private void foldIn(int f) {
            for (int i = 0; i < MOST_VARIABLES; i++) {
                known[i] = false;
            }
            to = program.start[f];
            walk.begin(program, f);
            for (int n = 0; n < Walk.MOST_EVENTS && walk.advance(); n++) {
                if (walk.event == Walk.ENTER) {
                    enter(walk.level);
                } else if (walk.event == Walk.BEHIND_KID) {
                    behindKid(walk.level, walk.kid);
                } else {
                    leave(walk.level);
                }
            }
            program.size[f] = to - program.start[f];
        }

        private void enter(int level) {
            first[level] = to;
            gone[level] = false;
            int value = walk.values[level];
            if (walk.kinds[level] == VARIABLE && known[value]) {
                emit(NUMBER, number[value]);
            } else {
                emit(walk.kinds[level], value);
            }
        }

        private void behindKid(int level, int kid) {
            int kind = walk.kinds[level];
            if (kid == 0 && kind == SEQUENCE && isCalm(first[level] + 1, to)) {
                giveWay(level);
            } else if (kid == 0 && kind == LET) {
                second[level] = to;
                bind(level);
            } else if (kid == 0 && kind == IF && isNumber(first[level] + 1)) {
                chooseBranch(level);
            } else if (kid == 1 && kind == IF && gone[level]) {
                walk.skipKid();
            }
        }

        private void leave(int level) {
            int kind = walk.kinds[level];
            if (kind >= ADD && kind <= EQUAL) {
                foldTwo(level);
            } else if (kind == NEGATE && isNumber(first[level] + 1)) {
                int negated = -program.value[first[level] + 1];
                to = first[level];
                emit(NUMBER, negated);
            } else if (kind == LET && !gone[level]) {
                dropUnused(level);
            }
        }

        private void giveWay(int level) {
            to = first[level];
            gone[level] = true;
        }

        private void bind(int level) {
            if (isNumber(first[level] + 1)) {
                int variable = walk.values[level];
                known[variable] = true;
                number[variable] = program.value[first[level] + 1];
                giveWay(level);
            }
        }

        private void chooseBranch(int level) {
            boolean takesThen = program.value[first[level] + 1] != 0;
            giveWay(level);
            if (!takesThen) {
                walk.skipKid();
            }
        }

        private void foldTwo(int level) {
            int a = first[level] + 1;
            int b = a + 1;
            if (to != b + 1 || program.kind[a] != NUMBER || program.kind[b] != NUMBER) {
                return;
            }
            if (dividesByZero(walk.kinds[level], program.value[b])) {
                return;
            }
            int outcome = operate(walk.kinds[level], program.value[a], program.value[b]);
            to = first[level];
            emit(NUMBER, outcome);
        }

        private void dropUnused(int level) {
            int body = second[level];
            if (standsIn(walk.values[level], body) || !isCalm(first[level] + 1, body)) {
                return;
            }
            System.arraycopy(program.kind, body, program.kind, first[level], to - body);
            System.arraycopy(program.value, body, program.value, first[level], to - body);
            to = first[level] + to - body;
        }

        /** Whether all that came out from there on is one number. */
        private boolean isNumber(int from) {
            return to == from + 1 && program.kind[from] == NUMBER;
        }

        private boolean isCalm(int from, int end) {
            for (int i = from; i < end; i++) {
                int kind = program.kind[i];
                if (kind == CALL || kind == PUT || kind == DIVIDE || kind == REST) {
                    return false;
                }
            }
            return true;
        }

        private boolean standsIn(int variable, int from) {
            for (int i = from; i < to; i++) {
                if (program.kind[i] == VARIABLE && program.value[i] == variable) {
                    return true;
                }
            }
            return false;
        }

        private void emit(int kind, int value) {
            if (to < program.kind.length) {
                program.kind[to] = kind;
                program.value[to] = value;
                to++;
            }
        }
    }

    /** Makes the code of expressions, and says how many slots and temps it takes. */
    private static final class Coder {
        private final Walk walk = new Walk();
        /** By level: whether the node is at an END, and how many variables are around it. */
        private final boolean[] atEnd = new boolean[MOST_NODES];
        private final int[] around = new int[MOST_NODES];
        /** By level, of an if: the jump whose place is not known yet, and the height below its branches. */
        private final int[] hole = new int[MOST_NODES];
        private final int[] below = new int[MOST_NODES];
        private final int[] slotOf = new int[MOST_VARIABLES];
        private Program program = null;
        private boolean tails = false;
        private int caller = 0;
        private int used = 0;
        private int height = 0;
        private int mostHeight = 0;
        private int slots = 0;

        void encode(Program p, boolean withTails) {
            program = p;
            tails = withTails;
            used = 0;
            for (int f = 0; f < p.count; f++) {
                encodeIn(f);
            }
        }

        private void encodeIn(int f) {
            caller = f;
            height = 0;
            mostHeight = 0;
            slots = program.parameters[f];
            for (int i = 0; i < program.parameters[f]; i++) {
                slotOf[i] = i;
            }
            program.codeStart[f] = used;
            walk.begin(program, f);
            for (int n = 0; n < Walk.MOST_EVENTS && walk.advance(); n++) {
                if (walk.event == Walk.ENTER) {
                    enter(walk.level);
                } else if (walk.event == Walk.BEHIND_KID) {
                    behindKid(walk.level, walk.kid);
                } else {
                    leave(walk.level);
                }
            }
            program.codeSize[f] = used - program.codeStart[f];
            program.slots[f] = slots;
            program.temps[f] = mostHeight;
        }

        private void enter(int level) {
            if (level == 0) {
                atEnd[0] = true;
                around[0] = program.parameters[caller];
            } else {
                int parent = walk.kinds[level - 1];
                int kid = walk.done[level - 1];
                boolean last = parent == IF ? kid > 0 : (parent == LET || parent == SEQUENCE) && kid == 1;
                atEnd[level] = atEnd[level - 1] && last;
                around[level] = around[level - 1] + (parent == LET && kid == 1 ? 1 : 0);
            }
            if (walk.kinds[level] == LET) {
                slotOf[walk.values[level]] = around[level];
            }
        }

        private void behindKid(int level, int kid) {
            int kind = walk.kinds[level];
            if (kind == SEQUENCE && kid == 0) {
                emit(DO_DROP, 0);
                rise(-1);
            } else if (kind == LET && kid == 0) {
                emit(DO_STORE, useSlot(walk.values[level]));
                rise(-1);
            } else if (kind == IF && kid == 0) {
                hole[level] = emit(DO_ELSE, 0);
                rise(-1);
                below[level] = height;
            } else if (kind == IF && kid == 1) {
                int toElse = hole[level];
                if (!atEnd[level]) {
                    hole[level] = emit(DO_JUMP, 0);
                }
                fillWithHere(toElse);
                height = below[level];
            }
        }

        private void leave(int level) {
            int kind = walk.kinds[level];
            switch (kind) {
                case SEQUENCE:
                case LET:
                    return;
                case IF:
                    if (!atEnd[level]) {
                        fillWithHere(hole[level]);
                    }
                    return;
                case CALL:
                    encodeCall(walk.values[level], atEnd[level]);
                    return;
                case NUMBER:
                    emit(DO_CONST, walk.values[level]);
                    rise(1);
                    break;
                case VARIABLE:
                    emit(DO_LOAD, useSlot(walk.values[level]));
                    rise(1);
                    break;
                default:
                    emit(kind, 0);
                    rise(1 - program.kids(kind, 0));
            }
            if (atEnd[level]) {
                emit(DO_RETURN, 0);
            }
        }

        private void encodeCall(int g, boolean last) {
            rise(-program.parameters[g]);
            if (!last || !tails) {
                emit(DO_CALL, g);
                rise(1);
                if (last) {
                    emit(DO_RETURN, 0);
                }
            } else if (g == caller) {
                emit(DO_AGAIN, 0);
            } else {
                emit(DO_TAIL, g);
            }
        }

        private int useSlot(int variable) {
            int slot = slotOf[variable];
            slots = Math.max(slots, slot + 1);
            return slot;
        }

        private void rise(int by) {
            height += by;
            mostHeight = Math.max(mostHeight, height);
        }

        /** Where it was put. */
        private int emit(int operation, int operand) {
            int at = used;
            if (at < program.operation.length) {
                program.operation[at] = operation;
                program.operand[at] = operand;
                used++;
            }
            return at;
        }

        private void fillWithHere(int at) {
            if (at < program.operand.length) {
                program.operand[at] = used - program.codeStart[caller];
            }
        }
    }

    /** Finds how many words each function's code can ever need. */
    private static final class Bounds {
        private final int[] called = new int[MOST_FUNCTIONS];
        private final int[] tailed = new int[MOST_FUNCTIONS];
        private final int[] reach = new int[MOST_FUNCTIONS];

        void find(Program p) {
            for (int f = 0; f < p.count; f++) {
                gather(p, f);
                reach[f] = called[f] | tailed[f];
            }
            closeOver(reach, p.count);
            int endless = findEndless(p.count);
            for (int f = 0; f < p.count; f++) {
                boolean none = hasBit(endless, f) || (reach[f] & endless) != 0;
                p.bound[f] = none ? NONE : p.frame(f);
            }
            // Without endless ones no way through the calls needs a function twice: as many rounds as
            // there are functions let each bound come to all that it counts for.
            boolean changed = true;
            for (int round = 0; round < p.count && changed; round++) {
                changed = false;
                for (int f = 0; f < p.count; f++) {
                    changed |= raise(p, f);
                }
            }
        }

        private void gather(Program p, int f) {
            called[f] = 0;
            tailed[f] = 0;
            for (int i = p.codeStart[f]; i < p.codeStart[f] + p.codeSize[f]; i++) {
                if (p.operation[i] == DO_CALL) {
                    called[f] |= 1 << p.operand[i];
                } else if (p.operation[i] == DO_TAIL) {
                    tailed[f] |= 1 << p.operand[i];
                }
            }
        }

        /** The functions with a CALL of one that comes back to them, as bits. */
        private int findEndless(int count) {
            int endless = 0;
            for (int f = 0; f < count; f++) {
                for (int g = 0; g < count; g++) {
                    if (hasBit(called[f], g) && (g == f || hasBit(reach[g], f))) {
                        endless |= 1 << f;
                    }
                }
            }
            return endless;
        }

        private boolean raise(Program p, int f) {
            int before = p.bound[f];
            if (before == NONE) {
                return false;
            }
            for (int g = 0; g < p.count; g++) {
                if (hasBit(called[f], g)) {
                    p.bound[f] = Math.max(p.bound[f], p.frame(f) + p.bound[g]);
                }
                if (hasBit(tailed[f], g)) {
                    p.bound[f] = Math.max(p.bound[f], p.bound[g]);
                }
            }
            return p.bound[f] != before;
        }
    }

    /** Writes expressions into bytes; what was written before stays if the new one is too long. */
    private static final class Writer {
        private static final String OPERATORS = "+-*/%<";
        private final Walk walk = new Walk();
        private byte[] written = new byte[MOST_WRITTEN];
        private byte[] draft = new byte[MOST_WRITTEN];
        private final char[] digits = new char[Tokens.NUMBER_DIGITS];
        private Program program = null;
        private int draftLength = 0;
        private boolean tooLong = false;
        int length = 0;

        /** Whether there was room. */
        boolean writeOut(Program p, int f) {
            draftLength = 0;
            tooLong = false;
            program = p;
            walk.begin(p, f);
            for (int n = 0; n < Walk.MOST_EVENTS && walk.advance(); n++) {
                if (walk.event == Walk.ENTER) {
                    enter(walk.level);
                } else if (walk.event == Walk.BEHIND_KID) {
                    behindKid(walk.level, walk.kid);
                } else {
                    leave(walk.level);
                }
            }
            if (tooLong) {
                return false;
            }
            byte[] old = written;
            written = draft;
            draft = old;
            length = draftLength;
            return true;
        }

        int byteAt(int i) {
            return i >= 0 && i < length ? written[i] : NONE;
        }

        private void enter(int level) {
            int value = walk.values[level];
            switch (walk.kinds[level]) {
                case NUMBER:
                    addNumber(value);
                    break;
                case VARIABLE:
                    addVariable(value);
                    break;
                case NEGATE:
                    addText("(-");
                    break;
                case PUT:
                    addText("put(");
                    break;
                case IF:
                    addText("(if ");
                    break;
                case LET:
                    addText("(let ");
                    addVariable(value);
                    addText("=");
                    break;
                case CALL:
                    addName(program.name[value]);
                    addText("(");
                    break;
                default:
                    addText("(");
            }
        }

        private void behindKid(int level, int kid) {
            int kind = walk.kinds[level];
            if (kid + 1 >= program.kids(kind, walk.values[level])) {
                return;
            }
            switch (kind) {
                case EQUAL:
                    addText("==");
                    break;
                case SEQUENCE:
                    addText(";");
                    break;
                case IF:
                    addText(kid == 0 ? " then " : " else ");
                    break;
                case LET:
                    addText(" in ");
                    break;
                case CALL:
                    addText(",");
                    break;
                default:
                    addOperator(kind);
            }
        }

        private void leave(int level) {
            if (walk.kinds[level] != NUMBER && walk.kinds[level] != VARIABLE) {
                addText(")");
            }
        }

        private void addOperator(int kind) {
            if (kind >= ADD && kind <= LESS) {
                addByte(OPERATORS.charAt(kind - ADD));
            }
        }

        private void addNumber(int value) {
            if (value < 0) {
                addText("(-");
                addDigits(-(long) value);
                addText(")");
            } else {
                addDigits(value);
            }
        }

        private void addVariable(int variable) {
            addText("v");
            addDigits(variable);
        }

        private void addDigits(long value) {
            long rest = value;
            int count = 0;
            do {
                digits[count] = (char) ('0' + rest % 10);
                rest /= 10;
                count++;
            } while (count < digits.length && rest > 0);
            for (int i = count - 1; i >= 0; i--) {
                addByte(digits[i]);
            }
        }

        private void addName(long name) {
            for (int i = Tokens.NAME_SIGNS - 1; i >= 0; i--) {
                int sign = (int) (name >> (8 * i)) & 255;
                if (sign != 0) {
                    addByte((char) sign);
                }
            }
        }

        private void addText(String added) {
            for (int i = 0; i < added.length(); i++) {
                addByte(added.charAt(i));
            }
        }

        private void addByte(char added) {
            if (draftLength >= MOST_WRITTEN) {
                tooLong = true;
                return;
            }
            draft[draftLength] = (byte) added;
            draftLength++;
        }
    }

    /**
     * Runs code. Frames lie one behind the other in a row of words; the first two words of a frame say where
     * its caller goes on (function and place) and how high the caller's values lie; then slots, then temps.
     */
    private static final class Machine {
        private static final int HEAD = 2;
        /** Above every place in a function's code. */
        private static final int PLACES = 1024;
        private static final int GOES_ON = 0;

        final int[] puts = new int[MOST_PUT];
        int outcome = 0;
        int steps = 0;
        int mostWords = 0;
        int putCount = 0;
        private final int[] memory = new int[MOST_WORDS];
        private Program program = null;
        private int allowed = 0;
        private int current = 0;
        private int at = 0;
        private int base = 0;
        private int top = 0;

        void load(Program p, int words) {
            program = p;
            allowed = Math.min(words, MOST_WORDS);
            outcome = 0;
            steps = 0;
            mostWords = 0;
            putCount = 0;
        }

        /** The halt. */
        int perform(int f, int[] arguments, int stepLimit) {
            if (!fits(f, 0)) {
                return OVERFLOW;
            }
            System.arraycopy(arguments, 0, memory, HEAD, program.parameters[f]);
            memory[0] = NONE;
            memory[1] = 0;
            enterFrame(f, 0);
            int halt = GOES_ON;
            while (steps < stepLimit && halt == GOES_ON) {
                steps++;
                halt = step();
            }
            return halt == GOES_ON ? SPENT : halt;
        }

        private boolean fits(int f, int from) {
            return from + program.frame(f) <= allowed;
        }

        private void enterFrame(int f, int from) {
            current = f;
            at = 0;
            base = from;
            top = from + HEAD + program.slots[f];
            mostWords = Math.max(mostWords, from + program.frame(f));
        }

        private int step() {
            int here = program.codeStart[current] + at;
            int number = program.operand[here];
            int operation = program.operation[here];
            at++;
            switch (operation) {
                case DO_CONST:
                    push(number);
                    return GOES_ON;
                case DO_LOAD:
                    push(memory[base + HEAD + number]);
                    return GOES_ON;
                case NEGATE:
                    push(-pop());
                    return GOES_ON;
                case PUT:
                    return putTop();
                case DO_DROP:
                    pop();
                    return GOES_ON;
                case DO_STORE:
                    memory[base + HEAD + number] = pop();
                    return GOES_ON;
                case DO_ELSE:
                    at = pop() == 0 ? number : at;
                    return GOES_ON;
                case DO_JUMP:
                    at = number;
                    return GOES_ON;
                case DO_CALL:
                    return enterCalled(number);
                case DO_RETURN:
                    return goBack();
                case DO_AGAIN:
                    return takeOwnPlace(current);
                case DO_TAIL:
                    return takeOwnPlace(number);
                default:
                    return combine(operation);
            }
        }

        private void push(int value) {
            if (top < MOST_WORDS) {
                memory[top] = value;
                top++;
            }
        }

        private int pop() {
            if (top <= 0) {
                return 0;
            }
            top--;
            return memory[top];
        }

        private int combine(int operation) {
            int b = pop();
            int a = pop();
            if (dividesByZero(operation, b)) {
                return DIVIDED;
            }
            push(operate(operation, a, b));
            return GOES_ON;
        }

        private int putTop() {
            if (putCount >= MOST_PUT) {
                return PUT_TOO_MUCH;
            }
            int value = pop();
            puts[putCount] = value;
            putCount++;
            push(value);
            return GOES_ON;
        }

        private int enterCalled(int g) {
            int from = base + program.frame(current);
            if (!fits(g, from)) {
                return OVERFLOW;
            }
            top -= program.parameters[g];
            System.arraycopy(memory, top, memory, from + HEAD, program.parameters[g]);
            memory[from] = current * PLACES + at;
            memory[from + 1] = top;
            enterFrame(g, from);
            return GOES_ON;
        }

        private int goBack() {
            int value = pop();
            int backTo = memory[base];
            if (backTo == NONE) {
                outcome = value;
                return DONE;
            }
            top = memory[base + 1];
            current = backTo / PLACES;
            at = backTo % PLACES;
            base -= program.frame(current);
            push(value);
            return GOES_ON;
        }

        /** The frame's head stays: whoever takes the place goes back to the same caller. */
        private int takeOwnPlace(int g) {
            if (!fits(g, base)) {
                return OVERFLOW;
            }
            top -= program.parameters[g];
            System.arraycopy(memory, top, memory, base + HEAD, program.parameters[g]);
            enterFrame(g, base);
            return GOES_ON;
        }
    }
}
