import java.util.Arrays;

/**
 * Programs of a language of matrices as trees: a text is fed to a tape and read as a tree or refused
 * at its first wrong token; the tree is told node by node and written in one form.
 */
public final class EquationText {
    public static final int NONE = -1;

    private static final int MOST_CHARACTERS = 65536;
    private static final int MOST_TOKENS = 16384;
    private static final int FED = 20;

    private final Reader reader = new Reader();
    private final Writer writer = new Writer();
    private final Nodes tree = new Nodes();
    private Row tape = new Row();
    // The tape is emptied by each reading, but the tree's tokens are asked for and written later.
    private Row source = new Row();
    private Row form = new Row();
    // A form that turns out too long must leave the one before as it was.
    private Row spareForm = new Row();
    private int fault = NONE;

    public EquationText() {
    }

    public int feed(int a, int b, int c, int d, int e) {
        if (tape.size() > MOST_CHARACTERS - FED) {
            return NONE;
        }
        tape.addFour(a);
        tape.addFour(b);
        tape.addFour(c);
        tape.addFour(d);
        tape.addFour(e);
        return tape.size();
    }

    public int end(int n) throws IllegalArgumentException {
        if (n < 0 || n > FED || tape.size() < FED) {
            throw new IllegalArgumentException("n is 0 to 20, and the tape has twenty characters");
        }
        tape.cut(tape.size() - FED + n);
        return tape.size();
    }

    public int read() {
        int tokens = reader.take(tape);
        fault = reader.fault();
        if (tokens != NONE) {
            tree.arrange(reader.draft());
            Row before = source;
            source = tape;
            tape = before;
        }
        tape.cut(0);
        return tokens;
    }

    public int place() {
        return fault;
    }

    public int nodes() {
        return tree.count();
    }

    public int node(int k, int what) {
        return what >= Nodes.KIND && what <= Nodes.PARTS ? tree.get(k, what) : NONE;
    }

    public int part(int k, int i) {
        if (i < 0 || i >= tree.get(k, Nodes.PARTS)) {
            return NONE;
        }
        int found = k + 1;
        for (int passed = 0; passed < i; passed++) {
            found = tree.after(found);
        }
        return found;
    }

    public int character(int k, int i) {
        if (i < 0 || i >= tree.get(k, Nodes.WIDTH)) {
            return NONE;
        }
        return source.at(tree.tokenPlace(k) + i);
    }

    public int write() {
        if (tree.count() == 0 || !writer.fits(tree, source, spareForm)) {
            return NONE;
        }
        Row before = form;
        form = spareForm;
        spareForm = before;
        return form.size();
    }

    public int written(int i) {
        return form.at(i);
    }

    public int rewind() {
        tape.become(form);
        return tape.size();
    }

    /** The kinds of nodes, with the document's numbers. */
    private static final class Kind {
        static final int PROGRAM = 0;
        static final int FUNCTION = 1;
        static final int NAMES = 2;
        static final int BLOCK = 3;
        static final int NOTHING = 5;
        static final int SEVERAL = 10;
        static final int IF = 11;
        static final int WHILE = 12;
        static final int FOR = 13;
        static final int TRY = 14;
        static final int BREAK = 15;
        static final int CONTINUE = 16;
        static final int RETURN = 17;
        static final int PRINT = 18;
        static final int SHOW = 19;
        static final int ALONE = 20;
        static final int GIVE = 21;
        static final int NUMERAL = 30;
        static final int TEXT = 31;
        static final int NAME = 32;
        static final int WITH = 33;
        static final int ALL = 34;
        static final int END = 35;
        static final int ROWS = 36;
        static final int ROW = 37;
        static final int TURN = 38;
        static final int SIGN = 39;
        static final int OPERATION = 40;
        static final int RANGE = 41;
    }

    /** How tightly the operations bind, with the document's numbers. */
    private static final class Rank {
        static final int NO_OPERATION = 0;
        static final int OR = 1;
        static final int AND = 2;
        static final int COMPARISON = 3;
        static final int RANGE = 4;
        static final int SUM = 5;
        static final int PRODUCT = 6;
        static final int SIGN = 7;
        static final int POWER = 8;
        static final int TURN = 9;
        static final int ITEM = 10;

        static int of(int token) {
            switch (token) {
                case Scanner.OR:
                    return OR;
                case Scanner.AND:
                    return AND;
                case Scanner.EQUAL: case Scanner.UNEQUAL: case '<': case Scanner.AT_MOST: case '>': case Scanner.AT_LEAST:
                    return COMPARISON;
                case ':':
                    return RANGE;
                case '+': case '-':
                    return SUM;
                case '*': case '/': case '\\': case Scanner.EACH_TIMES: case Scanner.EACH_OVER:
                    return PRODUCT;
                case '^': case Scanner.EACH_POWER:
                    return POWER;
                default:
                    return NO_OPERATION;
            }
        }
    }

    /** Characters, as many as a tape has at the most. */
    private static final class Row {
        // A power of two, so that doubling meets the bound exactly.
        private static final int FIRST_ROOM = 128;
        private byte[] bytes = new byte[FIRST_ROOM];
        private int size = 0;

        int size() {
            return size;
        }

        int at(int i) {
            return i >= 0 && i < size && i < bytes.length ? bytes[i] & 255 : NONE;
        }

        boolean add(int character) {
            if (size >= bytes.length) {
                if (bytes.length >= MOST_CHARACTERS) {
                    return false;
                }
                bytes = Arrays.copyOf(bytes, 2 * bytes.length);
            }
            bytes[size] = (byte) character;
            size++;
            return true;
        }

        void addFour(int characters) {
            for (int shift = 24; shift >= 0; shift -= 8) {
                add(characters >>> shift & 255);
            }
        }

        void cut(int n) {
            if (n >= 0 && n < size) {
                size = n;
            }
        }

        void become(Row other) {
            size = 0;
            for (int i = 0; i < other.size; i++) {
                add(other.at(i));
            }
        }

        boolean same(int place, int otherPlace, int width) {
            for (int i = 0; i < width; i++) {
                if (at(place + i) != at(otherPlace + i)) {
                    return false;
                }
            }
            return true;
        }
    }

    /**
     * Nodes with what is told of each. A draft holds a node behind its parts, because the token of an
     * operation comes behind its first part; a tree holds a node before its parts, as it is numbered.
     */
    private static final class Nodes {
        static final int KIND = 0;
        static final int PLACE = 1;
        static final int SECOND = 2;
        static final int PARTS = 3;
        static final int WIDTH = 4;
        static final int SIZE = 5;
        // In a draft the number that the node gets in the tree, in a tree the node that it is a part of.
        static final int LINK = 6;
        private static final int COLUMNS = 7;
        // Each node but PROGRAM can be laid to a token of its own.
        private static final int MOST = MOST_TOKENS + 1;
        private static final int FIRST_ROOM = 32;
        private int[] cells = new int[FIRST_ROOM * COLUMNS];
        private int count = 0;

        int count() {
            return count;
        }

        int get(int k, int column) {
            return k >= 0 && k < count && column >= 0 && column < COLUMNS ? cells[k * COLUMNS + column] : NONE;
        }

        private void set(int k, int column, int value) {
            if (k >= 0 && k < count && column >= 0 && column < COLUMNS) {
                cells[k * COLUMNS + column] = value;
            }
        }

        int last(int column) {
            return get(count - 1, column);
        }

        /** The number behind a node of a tree and all its parts. */
        int after(int k) {
            return k + get(k, SIZE);
        }

        int tokenPlace(int k) {
            // A FUNCTION's token is its NAME, and its results' NAMES have that place.
            return get(get(k, KIND) == Kind.FUNCTION ? k + 1 : k, PLACE);
        }

        void clear() {
            count = 0;
        }

        void dropLast() {
            if (count > 0) {
                count--;
            }
        }

        /** Adds a node to a draft; the latest ones without a whole become its parts. */
        void add(int kind, int place, int second, int parts, int width) {
            if (count >= MOST) {
                return;
            }
            int at = count * COLUMNS;
            if (at + COLUMNS > cells.length) {
                cells = Arrays.copyOf(cells, Math.min(2 * cells.length, MOST * COLUMNS));
            }
            int from = count;
            for (int i = 0; i < parts; i++) {
                from -= get(from - 1, SIZE);
            }
            cells[at + KIND] = kind;
            cells[at + PLACE] = place;
            cells[at + SECOND] = second;
            cells[at + PARTS] = parts;
            cells[at + WIDTH] = width;
            cells[at + SIZE] = count - from + 1;
            cells[at + LINK] = NONE;
            count++;
        }

        void addLeaf(int kind, int place, int width) {
            add(kind, place, NONE, 0, width);
        }

        /** Becomes the tree of a whole draft. */
        void arrange(Nodes draft) {
            clear();
            for (int k = 0; k < draft.count; k++) {
                addLeaf(NONE, NONE, 0);
            }
            draft.set(draft.count - 1, LINK, 0);
            for (int from = draft.count - 1; from >= 0; from--) {
                int k = draft.get(from, LINK);
                for (int column = KIND; column <= SIZE; column++) {
                    set(k, column, draft.get(from, column));
                }
                linkParts(draft, from, k);
            }
        }

        private void linkParts(Nodes draft, int from, int k) {
            int number = after(k);
            int drafted = from - 1;
            for (int i = 0; i < get(k, PARTS); i++) {
                number -= draft.get(drafted, SIZE);
                draft.set(drafted, LINK, number);
                set(number, LINK, k);
                drafted -= draft.get(drafted, SIZE);
            }
        }
    }

    /** Cuts a text into tokens. */
    private static final class Scanner {
        // A sign of one character is its own kind; all other kinds have numbers that no sign has.
        static final int OVER = 0;
        static final int WRONG = 1;
        static final int NAME = 2;
        static final int NUMERAL = 3;
        static final int TEXT = 4;
        static final int IF = 5;
        static final int ELSEIF = 6;
        static final int ELSE = 7;
        static final int END = 8;
        static final int WHILE = 9;
        static final int FOR = 10;
        static final int BREAK = 11;
        static final int CONTINUE = 12;
        static final int RETURN = 13;
        static final int FUNCTION = 14;
        static final int PRINT = 15;
        static final int SHOW = 16;
        static final int TRY = 17;
        static final int CATCH = 18;
        static final int OR = 256;
        static final int AND = 257;
        static final int EQUAL = 258;
        static final int UNEQUAL = 259;
        static final int AT_MOST = 260;
        static final int AT_LEAST = 261;
        static final int EACH_TIMES = 262;
        static final int EACH_OVER = 263;
        static final int EACH_POWER = 264;

        private static final int LINE_END = 10;
        private static final int LONGEST_NAME = 255;
        private static final int LONGEST_TEXT = 4096;
        private static final int LARGEST_EXPONENT = 1000000;
        // 2^1024 - 2^970: from here on the nearest number is no longer finite.
        private static final String TOO_LARGE = "179769313486231580793728971405303415079934132710037826936173778980444968292764750946649017977587207096330286416692887910946555547851940402630657488671505820681908902000708383676273854845817711531764475730270069855571366959622842914819860834936475292719074168444365510704342711559699508093042880177904174497792";

        private Row text = new Row();
        private int next = 0;
        private int kind = OVER;
        private int start = 0;
        private int width = 0;

        void begin(Row newText) {
            text = newText;
            next = 0;
        }

        int kind() {
            return kind;
        }

        int start() {
            return start;
        }

        int width() {
            return width;
        }

        static boolean isWord(int kind) {
            return kind >= IF && kind <= CATCH;
        }

        /** The kind of the token of signs that begins with a character, which another one follows. */
        static int signs(int character, int follower) {
            switch (character) {
                case '|':
                    return follower == '|' ? OR : WRONG;
                case '&':
                    return follower == '&' ? AND : WRONG;
                case '=':
                    return follower == '=' ? EQUAL : '=';
                case '~':
                    return follower == '=' ? UNEQUAL : '~';
                case '<':
                    return follower == '=' ? AT_MOST : '<';
                case '>':
                    return follower == '=' ? AT_LEAST : '>';
                case '.':
                    return follower == '*' ? EACH_TIMES : follower == '/' ? EACH_OVER : follower == '^' ? EACH_POWER : WRONG;
                case ':': case '+': case '-': case '*': case '/': case '\\': case '^': case '\'':
                case '(': case ')': case '[': case ']': case ',': case ';':
                    return character;
                default:
                    return WRONG;
            }
        }

        void step() {
            skipBlanks();
            start = next;
            int character = text.at(start);
            if (character == NONE) {
                kind = OVER;
                width = 0;
            } else if (isLetter(character)) {
                scanName();
            } else if (isDigit(character)) {
                scanNumeral();
            } else if (character == '"') {
                scanText();
            } else {
                kind = signs(character, text.at(start + 1));
                width = kind >= OR ? 2 : 1;
            }
            next = start + width;
        }

        private void skipBlanks() {
            boolean remark = false;
            while (next < text.size()) {
                int character = text.at(next);
                if (character == LINE_END) {
                    remark = false;
                } else if (character == '%') {
                    remark = true;
                } else if (!remark && character != 9 && character != 13 && character != ' ') {
                    return;
                }
                next++;
            }
        }

        private static boolean isLetter(int character) {
            return character >= 'A' && character <= 'Z' || character >= 'a' && character <= 'z';
        }

        private static boolean isDigit(int character) {
            return character >= '0' && character <= '9';
        }

        private void scanName() {
            int stop = start + 1;
            while (stop < text.size() && (isLetter(text.at(stop)) || isDigit(text.at(stop)) || text.at(stop) == '_')) {
                stop++;
            }
            width = stop - start;
            kind = width > LONGEST_NAME ? WRONG : wordOrName();
        }

        private int wordOrName() {
            return is("if") ? IF : is("elseif") ? ELSEIF : is("else") ? ELSE : is("end") ? END
                    : is("while") ? WHILE : is("for") ? FOR : is("break") ? BREAK : is("continue") ? CONTINUE
                    : is("return") ? RETURN : is("function") ? FUNCTION : is("print") ? PRINT : is("show") ? SHOW
                    : is("try") ? TRY : is("catch") ? CATCH : NAME;
        }

        private boolean is(String word) {
            if (word.length() != width) {
                return false;
            }
            for (int i = 0; i < word.length(); i++) {
                if (word.charAt(i) != text.at(start + i)) {
                    return false;
                }
            }
            return true;
        }

        private void scanText() {
            int stop = start + 1;
            while (stop < text.size() && text.at(stop) >= ' ' && text.at(stop) <= '~' && text.at(stop) != '"') {
                stop++;
            }
            kind = text.at(stop) == '"' && stop - start - 1 <= LONGEST_TEXT ? TEXT : WRONG;
            width = stop - start + 1;
        }

        private void scanNumeral() {
            int stop = digitsEnd(start);
            if (text.at(stop) == '.') {
                int fraction = digitsEnd(stop + 1);
                stop = fraction > stop + 1 ? fraction : stop;
            }
            int mantissaEnd = stop;
            if (text.at(stop) == 'e') {
                int sign = text.at(stop + 1);
                int exponent = sign == '+' || sign == '-' ? stop + 2 : stop + 1;
                int exponentEnd = digitsEnd(exponent);
                stop = exponentEnd > exponent ? exponentEnd : stop;
            }
            width = stop - start;
            kind = isFinite(mantissaEnd, stop) ? NUMERAL : WRONG;
        }

        private int digitsEnd(int from) {
            int stop = from;
            while (stop < text.size() && isDigit(text.at(stop))) {
                stop++;
            }
            return stop;
        }

        private boolean isFinite(int mantissaEnd, int stop) {
            int point = digitsEnd(start);
            int first = start;
            while (first < mantissaEnd && (text.at(first) == '0' || text.at(first) == '.')) {
                first++;
            }
            if (first == mantissaEnd) {
                return true;
            }
            int wholeDigits = first < point ? point - first : point + 1 - first;
            long magnitude = (long) wholeDigits + exponent(mantissaEnd, stop);
            return magnitude == TOO_LARGE.length() ? isBelowTooLarge(first, mantissaEnd) : magnitude < TOO_LARGE.length();
        }

        private int exponent(int from, int stop) {
            int value = 0;
            for (int i = from + 1; i < stop; i++) {
                if (isDigit(text.at(i))) {
                    // No text has digits enough to make up for an exponent of this size.
                    value = Math.min(LARGEST_EXPONENT, value * 10 + text.at(i) - '0');
                }
            }
            return text.at(from + 1) == '-' ? -value : value;
        }

        private boolean isBelowTooLarge(int first, int mantissaEnd) {
            int at = first;
            for (int i = 0; i < TOO_LARGE.length(); i++) {
                if (text.at(at) == '.') {
                    at++;
                }
                int digit = at < mantissaEnd ? text.at(at) : '0';
                if (digit != TOO_LARGE.charAt(i)) {
                    return digit < TOO_LARGE.charAt(i);
                }
                at++;
            }
            return false;
        }
    }

    /** What is open around the next token: a bracket, a statement or a block. */
    private static final class Frame {
        final Frame below;
        Frame above = null;
        int kind = Kind.PROGRAM;
        int place = 0;
        int width = 0;
        int second = NONE;
        int parts = 0;
        // The block, row or list of names that is being read inside it.
        int innerParts = 0;
        int innerPlace = 0;
        int innerWidth = 0;
        // The signs before a bracket stay open until it closes.
        int signs = 0;
        int waitingBelow = 0;
        // ':' or 'end' stands in an argument: there can be no third one.
        boolean limited = false;
        // All that stands in it so far could be targets, too.
        boolean targets = false;
        // 'else' or 'catch' has come.
        boolean lastBlock = false;

        Frame(Frame below) {
            this.below = below;
        }

        void begin(int newKind, int newPlace, int newWidth) {
            kind = newKind;
            place = newPlace;
            width = newWidth;
            second = NONE;
            parts = 0;
            innerParts = 0;
            innerPlace = newPlace;
            innerWidth = newWidth;
            signs = 0;
            waitingBelow = 0;
            limited = false;
            targets = false;
            lastBlock = false;
        }
    }

    /** Tokens that are kept while a text is read, the latest one last. */
    private static final class Tokens {
        static final int RANK = 0;
        static final int PLACE = 1;
        static final int SECOND = 2;
        static final int WIDTH = 3;
        private static final int COLUMNS = 4;
        private static final int FIRST_ROOM = 16;
        private int[] cells = new int[FIRST_ROOM * COLUMNS];
        private int count = 0;

        int count() {
            return count;
        }

        void clear() {
            count = 0;
        }

        void add(int rank, int place, int width) {
            if (count >= MOST_TOKENS) {
                return;
            }
            int at = count * COLUMNS;
            if (at + COLUMNS > cells.length) {
                cells = Arrays.copyOf(cells, 2 * cells.length);
            }
            cells[at + RANK] = rank;
            cells[at + PLACE] = place;
            cells[at + SECOND] = NONE;
            cells[at + WIDTH] = width;
            count++;
        }

        void dropLast() {
            if (count > 0) {
                count--;
            }
        }

        int get(int i, int column) {
            return i >= 0 && i < count && column >= 0 && column < COLUMNS ? cells[i * COLUMNS + column] : NONE;
        }

        int last(int column) {
            return get(count - 1, column);
        }

        void giveLastSecond(int place) {
            if (count > 0) {
                cells[(count - 1) * COLUMNS + SECOND] = place;
            }
        }
    }

    /**
     * Reads a text token by token. What may come next is told by a mode and the open frames alone, so
     * the first token that does not fit them is the fault, and no text makes calls go deep.
     */
    private static final class Reader {
        private static final int MOST_LEVELS = 60;
        private static final int MOST_IN_LIST = 8;
        private static final int MOST_LIMITED = 2;

        // Frames that are no nodes.
        private static final int GROUP = 50;
        private static final int HEAD = 51;
        private static final int CALL = 52;

        // A '-' behind '^' takes just what a TURN would, so it is done before the next '^'.
        private static final int POWER_SIGN = Rank.TURN;

        // Between the parts of statements.
        private static final int STATEMENT = 0;
        private static final int SEMICOLON = 1;
        private static final int HEAD_OPEN = 2;
        private static final int FOR_NAME = 3;
        private static final int FOR_EQUALS = 4;
        // In the head of a function.
        private static final int FUNCTION_FIRST = 10;
        private static final int FUNCTION_FIRST_NAME = 11;
        private static final int RESULT = 12;
        private static final int RESULT_OVER = 13;
        private static final int FUNCTION_EQUALS = 14;
        private static final int FUNCTION_NAME = 15;
        private static final int FUNCTION_OPEN = 16;
        private static final int FIRST_PARAMETER = 17;
        private static final int PARAMETER = 18;
        private static final int PARAMETER_OVER = 19;
        // In a statement with targets.
        private static final int TARGET = 20;
        private static final int TARGET_OVER = 21;
        private static final int SEVERAL_EQUALS = 22;
        private static final int SEVERAL_NAME = 23;
        private static final int SEVERAL_OPEN = 24;
        private static final int SEVERAL_OVER = 25;
        // In what is worked out.
        private static final int START = 30;
        private static final int OPERAND = 31;
        private static final int POWER_OPERAND = 32;
        private static final int SIGNED_POWER_OPERAND = 33;
        private static final int OPERATOR = 34;
        private static final int ALL_OVER = 35;
        // Where the next token tells what the latest one was.
        private static final int NAME_OR_WITH = 40;
        private static final int ROWS_OR_TARGETS = 41;
        private static final int SIGN_OR_TARGET = 42;

        private final Scanner scanner = new Scanner();
        private final Nodes draft = new Nodes();
        // Operations and signs whose last part has not ended.
        private final Tokens waiting = new Tokens();
        // The NAME of each function so far.
        private final Tokens functions = new Tokens();
        private final Frame bottom = new Frame(null);
        private Frame top = bottom;
        private Row text = new Row();
        private int mode = STATEMENT;
        private int levels = 0;
        private int signs = 0;
        private int loops = 0;
        private int token = Scanner.OVER;
        private int fault = NONE;

        Nodes draft() {
            return draft;
        }

        int fault() {
            return fault;
        }

        /** The number of tokens, or NONE when the text has a fault. */
        int take(Row newText) {
            begin(newText);
            for (int tokens = 0; tokens <= MOST_TOKENS; tokens++) {
                scanner.step();
                token = scanner.kind();
                if (token == Scanner.OVER && mode == STATEMENT && top.kind == Kind.PROGRAM) {
                    draft.add(Kind.PROGRAM, 0, NONE, top.innerParts, 0);
                    return tokens;
                }
                settle();
                boolean stands = mode >= START ? standsInExpression() : mode >= TARGET ? standsInSeveral()
                        : mode >= FUNCTION_FIRST ? standsInFunctionHead() : standsInStatement();
                // At the text's end the scanner is at its length, where that fault is.
                if (!stands || tokens == MOST_TOKENS) {
                    fault = scanner.start();
                    return NONE;
                }
            }
            return NONE;
        }

        private void begin(Row newText) {
            text = newText;
            scanner.begin(newText);
            draft.clear();
            waiting.clear();
            functions.clear();
            top = bottom;
            top.begin(Kind.PROGRAM, 0, 0);
            mode = STATEMENT;
            levels = 0;
            signs = 0;
            loops = 0;
            fault = NONE;
        }

        private boolean goOn(int newMode) {
            mode = newMode;
            return true;
        }

        private boolean addName(int newMode) {
            draft.addLeaf(Kind.NAME, scanner.start(), scanner.width());
            return goOn(newMode);
        }

        private void push(int kind) {
            if (top.above == null) {
                top.above = new Frame(top);
            }
            top = top.above;
            top.begin(kind, scanner.start(), scanner.width());
            top.waitingBelow = waiting.count();
            top.signs = signs;
            signs = 0;
        }

        private void pop() {
            signs = top.signs;
            if (top.below != null) {
                top = top.below;
            }
        }

        private boolean goDeeper() {
            if (levels >= MOST_LEVELS) {
                return false;
            }
            levels++;
            return true;
        }

        /** Decides what the latest token was, or what begins, where this one tells it. */
        private void settle() {
            if (mode == STATEMENT && !Scanner.isWord(token)) {
                push(Kind.ALONE);
                mode = START;
            }
            if (mode == START) {
                settleStart();
            } else if (mode == NAME_OR_WITH && token != '(') {
                endItem();
            } else if (mode == ROWS_OR_TARGETS && token != '=') {
                mode = OPERATOR;
            } else if (mode == SIGN_OR_TARGET && token != ',' && token != ']') {
                top.targets = false;
                mode = OPERAND;
            } else if (mode == SIGN_OR_TARGET) {
                int place = waiting.last(Tokens.PLACE);
                waiting.dropLast();
                endItem();
                becomeTargets(place);
            }
        }

        private void settleStart() {
            if (top.kind == Kind.ROWS && top.innerParts == 0) {
                top.innerPlace = scanner.start();
                top.innerWidth = scanner.width();
            }
            boolean canBeTarget = top.targets && (token == Scanner.NAME || token == '~');
            top.targets = canBeTarget;
            if (token != ')' && token != ']' && token != ':' && !(canBeTarget && token == '~')) {
                mode = OPERAND;
            }
        }

        // Blocks and statements.

        private boolean standsInStatement() {
            switch (mode) {
                case STATEMENT:
                    return beginStatement();
                case SEMICOLON:
                    return token == ';' && endStatement();
                case HEAD_OPEN:
                    return token == '(' && goDeeper() && openHead();
                case FOR_NAME:
                    return token == Scanner.NAME && addName(FOR_EQUALS);
                case FOR_EQUALS:
                    return token == '=' && goOn(START);
                default:
                    return false;
            }
        }

        private boolean beginStatement() {
            switch (token) {
                case Scanner.FUNCTION:
                    return top.kind == Kind.PROGRAM && openBlocks(Kind.FUNCTION, FUNCTION_FIRST);
                case Scanner.IF:
                    return openBlocks(Kind.IF, HEAD_OPEN);
                case Scanner.WHILE:
                    return openBlocks(Kind.WHILE, HEAD_OPEN);
                case Scanner.FOR:
                    return openBlocks(Kind.FOR, HEAD_OPEN);
                case Scanner.TRY:
                    return openBlocks(Kind.TRY, STATEMENT);
                case Scanner.ELSEIF:
                    return nextBlock(Kind.IF, false, HEAD_OPEN);
                case Scanner.ELSE:
                    return nextBlock(Kind.IF, true, STATEMENT);
                case Scanner.CATCH:
                    return nextBlock(Kind.TRY, true, STATEMENT);
                case Scanner.END:
                    return endBlocks();
                case Scanner.BREAK:
                    return loops > 0 && addWord(Kind.BREAK);
                case Scanner.CONTINUE:
                    return loops > 0 && addWord(Kind.CONTINUE);
                case Scanner.RETURN:
                    return addWord(Kind.RETURN);
                case Scanner.PRINT:
                    return openValues(Kind.PRINT);
                case Scanner.SHOW:
                    return openValues(Kind.SHOW);
                default:
                    return false;
            }
        }

        private boolean openBlocks(int kind, int newMode) {
            if (!goDeeper()) {
                return false;
            }
            push(kind);
            loops += isLoop(kind) ? 1 : 0;
            return goOn(newMode);
        }

        private static boolean isLoop(int kind) {
            return kind == Kind.WHILE || kind == Kind.FOR;
        }

        private boolean nextBlock(int kind, boolean lastBlock, int newMode) {
            if (top.kind != kind || top.lastBlock) {
                return false;
            }
            endBlock();
            top.lastBlock = lastBlock;
            beginBlock();
            return goOn(newMode);
        }

        private void beginBlock() {
            top.innerParts = 0;
            top.innerPlace = scanner.start();
        }

        private void endBlock() {
            draft.add(Kind.BLOCK, top.innerPlace, NONE, top.innerParts, 0);
            top.parts++;
        }

        private boolean endBlocks() {
            if (top.kind == Kind.PROGRAM || top.kind == Kind.TRY && !top.lastBlock) {
                return false;
            }
            endBlock();
            draft.add(top.kind, top.place, NONE, top.parts, top.width);
            loops -= isLoop(top.kind) ? 1 : 0;
            levels--;
            pop();
            return endStatement();
        }

        private boolean addWord(int kind) {
            draft.addLeaf(kind, scanner.start(), scanner.width());
            return goOn(SEMICOLON);
        }

        private boolean openValues(int kind) {
            push(kind);
            return goOn(START);
        }

        private boolean endStatement() {
            top.innerParts++;
            return goOn(STATEMENT);
        }

        private boolean openHead() {
            boolean isFor = top.kind == Kind.FOR;
            push(HEAD);
            return goOn(isFor ? FOR_NAME : START);
        }

        private boolean endHead() {
            levels--;
            pop();
            top.parts += top.kind == Kind.FOR ? 2 : 1;
            beginBlock();
            return goOn(STATEMENT);
        }

        // The head of a function.

        private boolean standsInFunctionHead() {
            switch (mode) {
                case FUNCTION_FIRST:
                    return token == '[' ? goOn(RESULT) : token == Scanner.NAME && keepName(FUNCTION_FIRST_NAME);
                case FUNCTION_FIRST_NAME:
                    return token == '=' ? takeFirstAsResult() : token == '(' && takeFirstAsName();
                case RESULT:
                    return addDifferentName(RESULT_OVER);
                case RESULT_OVER:
                    return token == ']' ? goOn(FUNCTION_EQUALS) : token == ',' && hasRoomForName() && goOn(RESULT);
                case FUNCTION_EQUALS:
                    return token == '=' && goOn(FUNCTION_NAME);
                case FUNCTION_NAME:
                    return token == Scanner.NAME && keepName(FUNCTION_OPEN) && nameFunction();
                case FUNCTION_OPEN:
                    return token == '(' && openParameters();
                case FIRST_PARAMETER:
                    return token == ')' ? endParameters() : addDifferentName(PARAMETER_OVER);
                case PARAMETER:
                    return addDifferentName(PARAMETER_OVER);
                case PARAMETER_OVER:
                    return token == ')' ? endParameters() : token == ',' && hasRoomForName() && goOn(PARAMETER);
                default:
                    return false;
            }
        }

        /** Keeps the NAME of a function, or what looks like one until '=' comes. */
        private boolean keepName(int newMode) {
            top.second = scanner.start();
            top.width = scanner.width();
            return goOn(newMode);
        }

        private boolean takeFirstAsResult() {
            draft.addLeaf(Kind.NAME, top.second, top.width);
            top.innerParts = 1;
            return goOn(FUNCTION_NAME);
        }

        private boolean takeFirstAsName() {
            return nameFunction() && openParameters();
        }

        private boolean nameFunction() {
            for (int i = 0; i < functions.count(); i++) {
                if (functions.get(i, Tokens.WIDTH) == top.width
                        && text.same(functions.get(i, Tokens.PLACE), top.second, top.width)) {
                    return false;
                }
            }
            functions.add(Rank.ITEM, top.second, top.width);
            endNames(top.second);
            return true;
        }

        private void endNames(int place) {
            draft.add(Kind.NAMES, place, NONE, top.innerParts, 0);
            top.parts++;
            top.innerParts = 0;
        }

        private boolean openParameters() {
            top.innerPlace = scanner.start();
            return goOn(FIRST_PARAMETER);
        }

        private boolean endParameters() {
            endNames(top.innerPlace);
            beginBlock();
            return goOn(STATEMENT);
        }

        private boolean hasRoomForName() {
            return top.innerParts < MOST_IN_LIST;
        }

        private boolean addDifferentName(int newMode) {
            if (token != Scanner.NAME) {
                return false;
            }
            for (int i = 1; i <= top.innerParts; i++) {
                int other = draft.count() - i;
                if (draft.get(other, Nodes.WIDTH) == scanner.width()
                        && text.same(draft.get(other, Nodes.PLACE), scanner.start(), scanner.width())) {
                    return false;
                }
            }
            top.innerParts++;
            return addName(newMode);
        }

        // Statements with targets.

        private boolean standsInSeveral() {
            switch (mode) {
                case TARGET:
                    return token == '~' ? addNothing(scanner.start()) : token == Scanner.NAME && addTarget();
                case TARGET_OVER:
                    return token == ']' ? endTargets() : token == ',' && hasRoomForName() && goOn(TARGET);
                case SEVERAL_EQUALS:
                    return token == '=' && takeSeveralEquals();
                case SEVERAL_NAME:
                    return token == Scanner.NAME && beginCall();
                case SEVERAL_OPEN:
                    return token == '(' && goDeeper() && openCall();
                case SEVERAL_OVER:
                    return token == ';' && endSeveral();
                default:
                    return false;
            }
        }

        private boolean addTarget() {
            top.innerParts++;
            return addName(TARGET_OVER);
        }

        private boolean addNothing(int place) {
            top.innerParts++;
            draft.add(Kind.NOTHING, place, NONE, 0, 1);
            return goOn(TARGET_OVER);
        }

        private boolean endTargets() {
            levels--;
            draft.add(Kind.NAMES, top.second, NONE, top.innerParts, 0);
            return goOn(SEVERAL_EQUALS);
        }

        private boolean takeSeveralEquals() {
            top.place = scanner.start();
            top.width = scanner.width();
            return goOn(SEVERAL_NAME);
        }

        private boolean beginCall() {
            push(CALL);
            return goOn(SEVERAL_OPEN);
        }

        private boolean openCall() {
            top.second = scanner.start();
            return goOn(START);
        }

        private boolean endSeveral() {
            draft.add(Kind.SEVERAL, top.place, top.second, 2, top.width);
            pop();
            return endStatement();
        }

        /** A '~' that is no sign has come between '[' and ']': the statement can only be one with targets. */
        private boolean becomeTargets(int place) {
            int bracket = top.place;
            int targets = top.innerParts;
            pop();
            top.kind = Kind.SEVERAL;
            top.second = bracket;
            top.innerParts = targets;
            return addNothing(place);
        }

        /** The ROWS with one ROW of NAMEs that stand there were targets. */
        private boolean turnRowsToTargets() {
            top.kind = Kind.SEVERAL;
            top.second = draft.last(Nodes.PLACE);
            draft.dropLast();
            int targets = draft.last(Nodes.PARTS);
            draft.dropLast();
            draft.add(Kind.NAMES, top.second, NONE, targets, 0);
            return takeSeveralEquals();
        }

        // What is worked out.

        private boolean standsInExpression() {
            switch (mode) {
                case START:
                    return takeAtStart();
                case OPERAND: case POWER_OPERAND: case SIGNED_POWER_OPERAND:
                    return takeOperand();
                case OPERATOR:
                    return takeOperator();
                case ALL_OVER:
                    return (token == ',' || token == ')') && takeOperator();
                case NAME_OR_WITH:
                    return goDeeper() && openArguments();
                case ROWS_OR_TARGETS:
                    return turnRowsToTargets();
                default:
                    return false;
            }
        }

        /** Takes what can stand only where a value begins. */
        private boolean takeAtStart() {
            switch (token) {
                case ')':
                    return isCall(top.kind) && top.parts == 0 && closeCall();
                case ']':
                    return top.kind == Kind.ROWS && top.parts == 0 && top.innerParts == 0 && closeRows();
                case ':':
                    return top.kind == Kind.WITH && top.parts < MOST_LIMITED && addAll();
                case '~':
                    // Where no level is left, only a target can stand.
                    return takeSign() ? goOn(SIGN_OR_TARGET) : becomeTargets(scanner.start());
                default:
                    return false;
            }
        }

        private static boolean isCall(int kind) {
            return kind == Kind.WITH || kind == CALL;
        }

        private boolean addAll() {
            draft.addLeaf(Kind.ALL, scanner.start(), scanner.width());
            top.limited = true;
            return goOn(ALL_OVER);
        }

        private boolean takeOperand() {
            switch (token) {
                case Scanner.NUMERAL:
                    return addItem(Kind.NUMERAL);
                case Scanner.TEXT:
                    return addItem(Kind.TEXT);
                case Scanner.NAME:
                    return addName(NAME_OR_WITH);
                case Scanner.END:
                    return limitNearestCall() && addItem(Kind.END);
                case '(':
                    return goDeeper() && openItem(GROUP);
                case '[':
                    return goDeeper() && openItem(Kind.ROWS);
                case '-': case '+': case '~':
                    return mode == OPERAND ? takeSign() : takePowerSign();
                default:
                    return false;
            }
        }

        private boolean takeSign() {
            if (!goDeeper()) {
                return false;
            }
            signs++;
            waiting.add(Rank.SIGN, scanner.start(), scanner.width());
            return goOn(OPERAND);
        }

        private boolean takePowerSign() {
            if (mode != POWER_OPERAND || token != '-') {
                return false;
            }
            waiting.add(POWER_SIGN, scanner.start(), scanner.width());
            return goOn(SIGNED_POWER_OPERAND);
        }

        private boolean addItem(int kind) {
            draft.addLeaf(kind, scanner.start(), scanner.width());
            return endItem();
        }

        private boolean endItem() {
            levels -= signs;
            signs = 0;
            mode = OPERATOR;
            return true;
        }

        private boolean openItem(int kind) {
            boolean beginsStatement = top.kind == Kind.ALONE && top.place == scanner.start();
            push(kind);
            top.targets = kind == Kind.ROWS && beginsStatement;
            return goOn(START);
        }

        private boolean openArguments() {
            int place = draft.last(Nodes.PLACE);
            int width = draft.last(Nodes.WIDTH);
            draft.dropLast();
            top.targets = false;
            push(Kind.WITH);
            top.place = place;
            top.width = width;
            return openCall();
        }

        /** Whether 'end' may stand here: it belongs to the nearest NAME with brackets. */
        private boolean limitNearestCall() {
            for (Frame frame = top; frame != null; frame = frame.below) {
                if (frame.kind == Kind.WITH) {
                    frame.limited = true;
                    return frame.parts < MOST_LIMITED;
                }
                if (frame.kind != GROUP && frame.kind != Kind.ROWS) {
                    return false;
                }
            }
            return false;
        }

        private boolean takeOperator() {
            if (token != ',' && token != ']') {
                top.targets = false;
            }
            if (token == '\'') {
                draft.add(Kind.TURN, scanner.start(), NONE, 1, scanner.width());
                return true;
            }
            int rank = Rank.of(token);
            // A second ':' goes on with the range that waits.
            endWaiting(rank == Rank.RANGE ? Rank.SUM : rank);
            switch (token) {
                case ',':
                    return takeComma();
                case ';':
                    return takeSemicolon();
                case ')':
                    return closeBracket();
                case ']':
                    return top.kind == Kind.ROWS && endRow() && closeRows();
                case '=':
                    return takeEquals();
                case ':':
                    return takeColon();
                default:
                    return rank != Rank.NO_OPERATION && takeOperation(rank);
            }
        }

        /** Ends what waits in the top frame and binds as tightly as the rank, or more. */
        private void endWaiting(int rank) {
            for (int left = waiting.count(); left > top.waitingBelow && waiting.last(Tokens.RANK) >= rank; left--) {
                int ended = waiting.last(Tokens.RANK);
                boolean isSign = ended == Rank.SIGN || ended == POWER_SIGN;
                int kind = isSign ? Kind.SIGN : ended == Rank.RANGE ? Kind.RANGE : Kind.OPERATION;
                int parts = isSign ? 1 : waiting.last(Tokens.SECOND) == NONE ? 2 : 3;
                draft.add(kind, waiting.last(Tokens.PLACE), waiting.last(Tokens.SECOND), parts, waiting.last(Tokens.WIDTH));
                waiting.dropLast();
            }
        }

        private boolean takeOperation(int rank) {
            waiting.add(rank, scanner.start(), scanner.width());
            return goOn(rank == Rank.POWER ? POWER_OPERAND : OPERAND);
        }

        private boolean takeColon() {
            if (waiting.count() == top.waitingBelow || waiting.last(Tokens.RANK) != Rank.RANGE) {
                return takeOperation(Rank.RANGE);
            }
            if (waiting.last(Tokens.SECOND) != NONE) {
                return false;
            }
            waiting.giveLastSecond(scanner.start());
            return goOn(OPERAND);
        }

        private boolean takeComma() {
            if (top.kind == Kind.ROWS) {
                top.innerParts++;
                top.targets = top.targets && hasRoomForName();
                return goOn(START);
            }
            if (!isCall(top.kind) && top.kind != Kind.PRINT && top.kind != Kind.SHOW) {
                return false;
            }
            top.parts++;
            return top.parts < (top.limited ? MOST_LIMITED : MOST_IN_LIST) && goOn(START);
        }

        private boolean takeSemicolon() {
            switch (top.kind) {
                case Kind.ROWS:
                    return endRow() && goOn(START);
                case Kind.ALONE:
                    return endPlain(1);
                case Kind.GIVE:
                    return endPlain(2);
                case Kind.PRINT: case Kind.SHOW:
                    return endPlain(top.parts + 1);
                default:
                    return false;
            }
        }

        private boolean endPlain(int parts) {
            draft.add(top.kind, top.place, top.second, parts, top.width);
            pop();
            return endStatement();
        }

        private boolean takeEquals() {
            int kind = draft.last(Nodes.KIND);
            int parts = draft.last(Nodes.PARTS);
            boolean canBeGiven = kind == Kind.NAME || kind == Kind.WITH && parts >= 1 && parts <= 2;
            // What was read last is all there is, and has no brackets around it, if the statement begins with it.
            if (top.kind != Kind.ALONE || !canBeGiven || draft.last(Nodes.PLACE) != top.place) {
                return false;
            }
            top.kind = Kind.GIVE;
            top.second = top.place;
            top.place = scanner.start();
            top.width = scanner.width();
            return goOn(START);
        }

        private boolean closeBracket() {
            switch (top.kind) {
                case GROUP:
                    return closeItem();
                case Kind.WITH: case CALL:
                    top.parts++;
                    return closeCall();
                case HEAD:
                    return endHead();
                default:
                    return false;
            }
        }

        private boolean closeItem() {
            levels--;
            pop();
            return endItem();
        }

        private boolean closeCall() {
            boolean ofSeveral = top.kind == CALL;
            draft.add(Kind.WITH, top.place, top.second, top.parts, top.width);
            closeItem();
            return goOn(ofSeveral ? SEVERAL_OVER : OPERATOR);
        }

        private boolean endRow() {
            draft.add(Kind.ROW, top.innerPlace, NONE, top.innerParts + 1, top.innerWidth);
            top.parts++;
            top.innerParts = 0;
            return true;
        }

        private boolean closeRows() {
            boolean targets = top.targets;
            draft.add(Kind.ROWS, top.place, NONE, top.parts, top.width);
            closeItem();
            return goOn(targets ? ROWS_OR_TARGETS : OPERATOR);
        }
    }

    /** Writes a tree in its one form, node by node; trees can be too deep for calls within calls. */
    private static final class Writer {
        private Nodes tree = new Nodes();
        private Row source = new Row();
        private Row form = new Row();
        private int indent = 0;
        private boolean fits = true;

        /** Whether the form of a tree has room in a row, which it then fills. */
        boolean fits(Nodes newTree, Row newSource, Row newForm) {
            tree = newTree;
            source = newSource;
            form = newForm;
            form.cut(0);
            indent = 0;
            fits = true;
            for (int k = 0; k < tree.count() && fits; k++) {
                enter(k);
                int ended = k;
                for (int left = 0; left <= k && ended >= 0 && tree.after(ended) == k + 1; left++) {
                    leave(ended);
                    ended = tree.get(ended, Nodes.LINK);
                }
            }
            return fits;
        }

        private int kind(int k) {
            return tree.get(k, Nodes.KIND);
        }

        private void put(String words) {
            for (int i = 0; i < words.length(); i++) {
                fits = form.add(words.charAt(i)) && fits;
            }
        }

        private void putToken(int k) {
            int from = tree.tokenPlace(k);
            int width = tree.get(k, Nodes.WIDTH);
            for (int i = 0; i < width; i++) {
                fits = form.add(source.at(from + i)) && fits;
            }
        }

        private void beginLine(String words) {
            for (int i = 0; i < indent; i++) {
                put("  ");
            }
            put(words);
        }

        private void enter(int k) {
            int whole = tree.get(k, Nodes.LINK);
            if (k == whole + 1) {
                leadFirst(whole, k);
            } else {
                lead(whole, k);
            }
            if (needsBrackets(whole, k)) {
                put("(");
            }
            begin(k);
        }

        private void leave(int k) {
            int whole = tree.get(k, Nodes.LINK);
            finish(k);
            if (needsBrackets(whole, k)) {
                put(")");
            }
            trail(whole, k);
        }

        /** What stands in front of the first part of a node. */
        private void leadFirst(int whole, int k) {
            switch (kind(whole)) {
                case Kind.FUNCTION:
                    put(tree.get(k, Nodes.PARTS) > 1 ? "[" : "");
                    break;
                case Kind.SEVERAL:
                    put("[");
                    break;
                case Kind.IF:
                    beginLine("if (");
                    break;
                case Kind.WHILE:
                    beginLine("while (");
                    break;
                case Kind.FOR:
                    beginLine("for (");
                    break;
                case Kind.TRY:
                    beginLine("try\n");
                    break;
                default:
                    break;
            }
        }

        /** What stands in front of a part of a node behind other parts. */
        private void lead(int whole, int k) {
            switch (kind(whole)) {
                case Kind.NAMES: case Kind.PRINT: case Kind.SHOW: case Kind.WITH: case Kind.ROW:
                    put(", ");
                    break;
                case Kind.ROWS:
                    put("; ");
                    break;
                case Kind.GIVE:
                    put(" = ");
                    break;
                case Kind.RANGE:
                    put(":");
                    break;
                case Kind.OPERATION:
                    putOperation(whole);
                    break;
                case Kind.IF:
                    if (kind(k) != Kind.BLOCK) {
                        beginLine("elseif (");
                    } else if (isElse(whole, k)) {
                        beginLine("else\n");
                    }
                    break;
                case Kind.TRY:
                    beginLine("catch\n");
                    break;
                default:
                    break;
            }
        }

        /** Of an IF only the block of an else stands without an "or", which makes the number of parts odd. */
        private boolean isElse(int whole, int k) {
            return tree.after(k) == tree.after(whole) && (tree.get(whole, Nodes.PARTS) & 1) == 1;
        }

        private void putOperation(int k) {
            String blank = rank(k) == Rank.POWER ? "" : " ";
            put(blank);
            putToken(k);
            put(blank);
        }

        /** What a node itself begins with. */
        private void begin(int k) {
            switch (kind(k)) {
                case Kind.BLOCK:
                    indent++;
                    break;
                case Kind.FUNCTION:
                    beginLine("function ");
                    break;
                case Kind.SEVERAL: case Kind.ALONE: case Kind.GIVE:
                    beginLine("");
                    break;
                case Kind.BREAK: case Kind.CONTINUE: case Kind.RETURN:
                    beginLine("");
                    putToken(k);
                    break;
                case Kind.PRINT: case Kind.SHOW:
                    beginLine("");
                    putToken(k);
                    put(" ");
                    break;
                case Kind.NUMERAL: case Kind.TEXT: case Kind.NAME: case Kind.NOTHING: case Kind.ALL: case Kind.END: case Kind.SIGN:
                    putToken(k);
                    break;
                case Kind.WITH:
                    putToken(k);
                    put("(");
                    break;
                case Kind.ROWS:
                    put("[");
                    break;
                default:
                    break;
            }
        }

        /** What a node itself ends with. */
        private void finish(int k) {
            switch (kind(k)) {
                case Kind.BLOCK:
                    indent--;
                    break;
                case Kind.FUNCTION: case Kind.IF: case Kind.WHILE: case Kind.FOR: case Kind.TRY:
                    beginLine("end\n");
                    break;
                case Kind.SEVERAL: case Kind.BREAK: case Kind.CONTINUE: case Kind.RETURN:
                case Kind.PRINT: case Kind.SHOW: case Kind.ALONE: case Kind.GIVE:
                    put(";\n");
                    break;
                case Kind.WITH:
                    put(")");
                    break;
                case Kind.ROWS:
                    put("]");
                    break;
                case Kind.TURN:
                    put("'");
                    break;
                default:
                    break;
            }
        }

        /** What stands behind a part of a node. */
        private void trail(int whole, int k) {
            boolean first = k == whole + 1;
            switch (kind(whole)) {
                case Kind.FUNCTION:
                    trailOfFunction(whole, k);
                    break;
                case Kind.SEVERAL:
                    put(first ? "] = " : "");
                    break;
                case Kind.FOR:
                    if (first) {
                        put(" = ");
                    } else if (kind(k) != Kind.BLOCK) {
                        put(")\n");
                    }
                    break;
                case Kind.IF: case Kind.WHILE:
                    if (kind(k) != Kind.BLOCK) {
                        put(")\n");
                    }
                    break;
                default:
                    break;
            }
        }

        private void trailOfFunction(int whole, int k) {
            if (k == whole + 1) {
                int results = tree.get(k, Nodes.PARTS);
                put(results > 1 ? "] = " : results == 1 ? " = " : "");
                putToken(whole);
                put("(");
            } else if (kind(k) == Kind.NAMES) {
                put(")\n");
            }
        }

        private int rank(int k) {
            switch (kind(k)) {
                case Kind.OPERATION:
                    int from = tree.tokenPlace(k);
                    return Rank.of(Scanner.signs(source.at(from), source.at(from + 1)));
                case Kind.RANGE:
                    return Rank.RANGE;
                case Kind.SIGN:
                    return Rank.SIGN;
                case Kind.TURN:
                    return Rank.TURN;
                default:
                    return Rank.ITEM;
            }
        }

        private boolean needsBrackets(int whole, int k) {
            switch (kind(whole)) {
                case Kind.OPERATION:
                    return k == whole + 1 ? rank(k) < rank(whole) : rank(k) <= rank(whole) && !isPowerSign(whole, k);
                case Kind.RANGE:
                    return rank(k) < Rank.SUM;
                case Kind.SIGN:
                    return rank(k) < Rank.SIGN;
                case Kind.TURN:
                    return rank(k) < Rank.TURN;
                default:
                    return false;
            }
        }

        /** Whether a right part is a '-' that may stand behind '^' and '.^' as it is. */
        private boolean isPowerSign(int whole, int k) {
            return rank(whole) == Rank.POWER && kind(k) == Kind.SIGN && source.at(tree.tokenPlace(k)) == '-'
                    && rank(k + 1) >= Rank.TURN;
        }
    }
}
