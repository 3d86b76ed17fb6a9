import java.util.Arrays;

/**
 * A computer of sixteen bits in four floors: chips of gates, a processor of two instructions,
 * a machine with a stack, and a language of classes that is made into that machine's commands.
 * All rows are made once, in the constructors: calls make no objects.
 */
public final class TowerComputer {
    private static final int TAPE_ROOM = 4000;
    private static final int FEED_BYTES = 20;
    private static final int MOST_FUEL = 5000;
    private static final int MOST_INSTRUCTIONS = 20000;
    private static final int NO_ADDRESS = 100000;
    private static final int NOWHERE = -1;

    private static final int LARGEST_WORD = 32767;

    /** What is found where no name, class, variable or sub is. */
    private static final int NONE = -1;

    // Kinds of tokens. A sign's kind is its own byte; all others lie beside the signs' bytes.
    private static final int STOP = -1;
    private static final int END = 0;
    private static final int BAD = 1;
    private static final int EXCESS = 2;
    private static final int NAME = 3;
    private static final int NUMBER = 4;
    private static final int STRING = 5;

    private static final int CLASS = 256;
    private static final int CONSTRUCTOR = 257;
    private static final int FUNCTION = 258;
    private static final int METHOD = 259;
    private static final int FIELD = 260;
    private static final int STATIC = 261;
    private static final int VAR = 262;
    private static final int INT = 263;
    private static final int CHAR = 264;
    private static final int BOOLEAN = 265;
    private static final int VOID = 266;
    private static final int TRUE = 267;
    private static final int FALSE = 268;
    private static final int NULL = 269;
    private static final int THIS = 270;
    private static final int LET = 271;
    private static final int DO = 272;
    private static final int IF = 273;
    private static final int ELSE = 274;
    private static final int WHILE = 275;
    private static final int RETURN = 276;
    private static final String TELLING_KEYWORDS =
        "class constructor function method field static var int char boolean void";
    private static final String DOING_KEYWORDS = "true false null this let do if else while return";

    private static final int CHIP = 300;
    private static final int IN = 301;
    private static final int OUT = 302;
    private static final int PARTS = 303;
    private static final int ALL_ONES = 304;
    private static final int ALL_ZEROS = 305;
    private static final String CHIP_KEYWORDS = "CHIP IN OUT PARTS true false";

    private static final int MOST_LANGUAGE_TOKENS = 1000;
    private static final int MOST_CHIP_TOKENS = 2000;

    // Numbers of faults; 1 and 2 stop the reading of a text, the others are gathered.
    private static final int NO_SYNTAX = 1;
    private static final int NO_ROOM = 2;
    private static final int TWICE = 3;
    private static final int NO_SUCH_NAME = 4;
    private static final int WRONG_CALL = 5;
    private static final int WRONG_WIDTH = 5;
    private static final int NO_THIS = 6;
    private static final int RING = 6;
    private static final int NO_MAIN = 7;

    // Kinds of commands.
    private static final int PUSH = 0;
    private static final int POP = 1;
    private static final int ADD = 2;
    private static final int SUB = 3;
    private static final int NEG = 4;
    private static final int AND = 5;
    private static final int OR = 6;
    private static final int NOT = 7;
    private static final int EQ = 8;
    private static final int LT = 9;
    private static final int GT = 10;
    private static final int LABEL = 11;
    private static final int GOTO = 12;
    private static final int JUMP_IF = 13;
    private static final int ENTER = 14;
    private static final int CALL = 15;
    private static final int LEAVE = 16;

    // Segments of PUSH and POP.
    private static final int CONSTANT = 0;
    private static final int ARGUMENT = 1;
    private static final int LOCAL = 2;
    private static final int STATICS = 3;
    private static final int FIELDS = 4;
    private static final int THAT = 5;
    private static final int POINTER = 6;
    private static final int TEMP = 7;
    private static final int SEGMENTS = 8;

    // The system's classes and subs, in the document's order; a sub's place in the row is its index.
    private static final int SYSTEM_CLASSES = 8;
    private static final int SYSTEM_SUBS = 40;
    private static final int FIRST_TEXT_SUB = 100 * SYSTEM_CLASSES;
    private static final String SYSTEM_CLASS_NAMES = "Math Memory Array String Output Keyboard Screen Sys";
    private static final String MATH_SUBS = "abs min max multiply divide sqrt";
    private static final String MEMORY_SUBS = "peek poke alloc deAlloc";
    private static final String ARRAY_SUBS = "new dispose";
    private static final String STRING_METHODS =
        "new length charAt setCharAt appendChar eraseLastChar intValue setInt dispose";
    private static final String STRING_FUNCTIONS = "newLine doubleQuote backSpace";
    private static final String OUTPUT_SUBS = "printChar printString printInt println";
    private static final String KEYBOARD_SUBS = "keyPressed readChar readLine";
    private static final String SCREEN_SUBS = "clearScreen setColor drawPixel drawLine drawRectangle drawCircle";
    private static final String SYS_SUBS = "halt error wait";
    private static final int[] SYSTEM_FIRST_SUBS = {0, 6, 10, 12, 24, 28, 31, 37, 40};
    private static final int[] SYSTEM_PARAMETERS = {
        1, 2, 2, 2, 2, 1,
        1, 2, 1, 1,
        1, 0,
        1, 0, 1, 2, 1, 0, 0, 1, 0, 0, 0, 0,
        1, 1, 1, 0,
        0, 0, 1,
        0, 1, 2, 4, 4, 3,
        0, 1, 1};
    private static final int MATH_ABS = 0;
    private static final int MATH_MIN = 1;
    private static final int MATH_MAX = 2;
    private static final int MATH_MULTIPLY = 3;
    private static final int MATH_DIVIDE = 4;
    private static final int MATH_SQRT = 5;
    private static final int MEMORY_PEEK = 6;
    private static final int MEMORY_POKE = 7;
    private static final int MEMORY_ALLOC = 8;
    private static final int MEMORY_DE_ALLOC = 9;
    private static final int ARRAY_NEW = 10;
    private static final int ARRAY_DISPOSE = 11;
    private static final int STRING_NEW = 12;
    private static final int STRING_LENGTH = 13;
    private static final int STRING_CHAR_AT = 14;
    private static final int STRING_SET_CHAR_AT = 15;
    private static final int STRING_APPEND_CHAR = 16;
    private static final int STRING_ERASE_LAST_CHAR = 17;
    private static final int STRING_INT_VALUE = 18;
    private static final int STRING_SET_INT = 19;
    private static final int STRING_DISPOSE = 20;
    private static final int STRING_NEW_LINE = 21;
    private static final int STRING_DOUBLE_QUOTE = 22;
    private static final int STRING_BACK_SPACE = 23;
    private static final int OUTPUT_PRINT_CHAR = 24;
    private static final int OUTPUT_PRINT_STRING = 25;
    private static final int OUTPUT_PRINT_INT = 26;
    private static final int OUTPUT_PRINTLN = 27;
    private static final int KEYBOARD_KEY_PRESSED = 28;
    private static final int KEYBOARD_READ_CHAR = 29;
    private static final int KEYBOARD_READ_LINE = 30;
    private static final int SCREEN_CLEAR = 31;
    private static final int SCREEN_SET_COLOR = 32;
    private static final int SCREEN_DRAW_PIXEL = 33;
    private static final int SCREEN_DRAW_LINE = 34;
    private static final int SCREEN_DRAW_RECTANGLE = 35;
    private static final int SCREEN_DRAW_CIRCLE = 36;
    private static final int SYS_HALT = 37;
    private static final int SYS_ERROR = 38;
    private static final int SYS_WAIT = 39;

    // Those subs of the system that stand in commands without being called by name.
    private static final int NUMBER_OF_MULTIPLY = 3;
    private static final int NUMBER_OF_DIVIDE = 4;
    private static final int NUMBER_OF_ALLOC = 102;
    private static final int NUMBER_OF_STRING_NEW = 300;
    private static final int NUMBER_OF_APPEND_CHAR = 304;

    private final int[] tape = new int[TAPE_ROOM];
    private int tapeLength;
    private int lastPlace = NOWHERE;
    private boolean loaded;
    private final Tokens tokens = new Tokens(tape);
    private final Program program = new Program();
    private final Translator translator = new Translator(tokens, program);
    private final Memory memory = new Memory();
    private final Library library = new Library(memory);
    private final Machine machine = new Machine(program, memory, library);
    private final Processor processor = new Processor(tape);
    private final ChipReader chipReader = new ChipReader(tokens);
    private final ChipChecker chipChecker = new ChipChecker(tokens, chipReader);
    private final Board board = new Board(chipReader, chipChecker);

    public TowerComputer() {
    }

    public boolean feed(int a, int b, int c, int d, int e) {
        if (tapeLength + FEED_BYTES > TAPE_ROOM) {
            return false;
        }
        append(a);
        append(b);
        append(c);
        append(d);
        append(e);
        return true;
    }

    private void append(int four) {
        for (int shift = 24; shift >= 0; shift -= 8) {
            if (tapeLength < TAPE_ROOM) {
                tape[tapeLength] = four >> shift & 255;
                tapeLength++;
            }
        }
    }

    public int load(int n) {
        if (n < 0 || n > tapeLength) {
            return -1;
        }
        tapeLength = 0;
        tokens.scan(n, false);
        translator.readText(false);
        if (tokens.fault == 0) {
            translator.readText(true);
        }
        loaded = tokens.fault == 0;
        lastPlace = tokens.placeOf(tokens.faultToken);
        return tokens.fault;
    }

    public boolean keys(int n) {
        if (n < 0 || n > Library.MOST_KEYS || n > tapeLength) {
            return false;
        }
        tapeLength = 0;
        library.takeKeys(tape, n);
        return true;
    }

    public int run(int fuel) {
        if (!loaded || fuel < 0 || fuel > MOST_FUEL) {
            return -1;
        }
        int end = machine.execute(fuel);
        lastPlace = end == Machine.DONE ? NOWHERE : machine.statementPlace;
        return end;
    }

    public int place() {
        return lastPlace;
    }

    public int error() {
        return memory.errorNumber;
    }

    public long fetch() {
        return library.takeOutput();
    }

    public long row(int y) {
        return memory.screenRow(y);
    }

    public int word(int a) {
        return memory.wordOr(a, NO_ADDRESS);
    }

    public int count(int what) {
        switch (what) {
            case 0:
                return tapeLength;
            case 1:
                return machine.steps;
            case 2:
                return machine.deepest;
            case 3:
                return memory.wordsInBlocks;
            case 4:
                return memory.blocks;
            case 5:
                return library.waitingOutput();
            case 6:
                return library.keysLeft;
            case 7:
                return loaded ? 1 : 0;
            default:
                return -1;
        }
    }

    public int command(int i, int what) {
        return loaded ? program.numberOf(i, what) : -1;
    }

    public int signs(int n) {
        if (n < 0 || n > tapeLength) {
            return -1;
        }
        tapeLength = 0;
        int fault = processor.assemble(n);
        lastPlace = processor.faultPlace;
        return fault;
    }

    public int code(int i) {
        return i >= 0 && i < processor.size ? processor.words[i] : -1;
    }

    public int go(int n) {
        return n >= 0 && n <= MOST_INSTRUCTIONS ? processor.execute(n) : -1;
    }

    public boolean set(int address, int v) {
        if (!Processor.isAddress(address)) {
            return false;
        }
        processor.storage[address] = (short) v;
        return true;
    }

    public int store(int address) {
        return Processor.isAddress(address) ? processor.storage[address] : NO_ADDRESS;
    }

    public int register(int what) {
        switch (what) {
            case 0:
                return processor.a;
            case 1:
                return processor.d;
            case 2:
                return processor.next;
            case 3:
                return processor.size;
            case 4:
                return processor.done;
            case 5:
                return processor.ownSymbols();
            default:
                return 0;
        }
    }

    public int chips(int n) {
        if (n < 0 || n > tapeLength) {
            return -1;
        }
        tapeLength = 0;
        tokens.scan(n, true);
        board.remove();
        chipReader.read();
        if (tokens.fault == 0) {
            chipChecker.check();
        }
        if (tokens.fault == 0 && !board.build()) {
            tokens.blame(RING, tokens.size - 1);
        }
        lastPlace = tokens.placeOf(tokens.faultToken);
        return tokens.fault;
    }

    public boolean drive(int k, int v) {
        return board.driveInput(k, v);
    }

    public int pin(int k) {
        return board.readOutput(k);
    }

    public int tick() {
        return board.clock();
    }

    public int gates(int what) {
        return board.measure(what);
    }

    /** Names of up to sixteen bytes, each held as two longs, so that two compare without a loop. */
    private static final class Names {
        private static final int HALF = 8;
        private static final int MOST_BYTES = 16;
        private final long[] high;
        private final long[] low;
        private int size;

        Names(int room, String words) {
            high = new long[room];
            low = new long[room];
            addWords(words);
        }

        /** Adds the words of a text, with a blank between each two. */
        void addWords(String words) {
            int start = 0;
            for (int i = 0; i <= words.length(); i++) {
                if (i == words.length() || words.charAt(i) == ' ') {
                    if (i > start) {
                        add(half(words, start, i), half(words, start + HALF, i));
                    }
                    start = i + 1;
                }
            }
        }

        private static long half(String words, int from, int to) {
            long packed = 0;
            for (int i = from; i < from + HALF; i++) {
                packed = packed << 8 | (i < to ? words.charAt(i) : 0);
            }
            return packed;
        }

        static long half(int[] bytes, int from, int to) {
            long packed = 0;
            for (int i = from; i < from + HALF; i++) {
                packed = packed << 8 | (i >= 0 && i < to && i < bytes.length ? bytes[i] : 0);
            }
            return packed;
        }

        void keep(int count) {
            size = Math.max(0, Math.min(size, count));
        }

        void add(long highHalf, long lowHalf) {
            if (size < high.length) {
                high[size] = highHalf;
                low[size] = lowHalf;
                size++;
            }
        }

        /** The first one of the names from .. to - 1 that is this one. */
        int find(long highHalf, long lowHalf, int from, int to) {
            int end = Math.min(to, size);
            for (int i = Math.max(0, from); i < end; i++) {
                if (high[i] == highHalf && low[i] == lowHalf) {
                    return i;
                }
            }
            return NONE;
        }

        /** As find() of the bytes of a text; bytes that can be in no name are found nowhere. */
        int findBytes(int[] bytes, int from, int to) {
            if (from < 0 || to > bytes.length || to <= from || to - from > MOST_BYTES) {
                return NONE;
            }
            for (int i = from; i < to; i++) {
                if (bytes[i] == 0) {
                    return NONE;
                }
            }
            return find(half(bytes, from, to), half(bytes, from + HALF, to), 0, size);
        }
    }

    /** The tokens of a text of the language, or of chips. The last one is the end, or one that is none. */
    private static final class Tokens {
        private static final int MOST_STRING_BYTES = 60;
        private static final String LANGUAGE_SIGNS = "{}[]().,;+-*/&|<>=~";
        private static final String CHIP_SIGNS = "{}()[],;:=";
        private final Names languageWords = new Names(21, TELLING_KEYWORDS);
        private final Names chipWords = new Names(6, CHIP_KEYWORDS);
        private final int[] text;
        private final int[] kinds = new int[MOST_CHIP_TOKENS + 1];
        private final int[] places = new int[MOST_CHIP_TOKENS + 1];
        private final int[] values = new int[MOST_CHIP_TOKENS + 1];
        private final long[] highs = new long[MOST_CHIP_TOKENS + 1];
        private final long[] lows = new long[MOST_CHIP_TOKENS + 1];
        private int size;
        private int length;
        private int position;
        private boolean ofChips;
        private int at;
        private int fault;
        private int faultToken;

        Tokens(int[] text) {
            this.text = text;
            languageWords.addWords(DOING_KEYWORDS);
        }

        void scan(int bytes, boolean chipText) {
            length = Math.min(bytes, text.length);
            ofChips = chipText;
            position = 0;
            size = 0;
            int room = ofChips ? MOST_CHIP_TOKENS : MOST_LANGUAGE_TOKENS;
            int kind = NAME;
            for (int i = 0; i <= room && i < kinds.length && kind > EXCESS; i++) {
                boolean closed = skipBlanks();
                places[i] = position;
                kind = closed ? readToken(i) : BAD;
                if (i == room && kind > EXCESS) {
                    kind = EXCESS;
                }
                kinds[i] = kind;
                size = i + 1;
            }
        }

        void rewind() {
            at = 0;
            fault = 0;
            faultToken = NONE;
        }

        int kind() {
            return at >= 0 && at < size ? kinds[at] : STOP;
        }

        void expect(int wanted) {
            if (kind() == wanted) {
                at++;
            } else {
                stop(NO_SYNTAX);
            }
        }

        /** Behind such a fault there is no token any more, so that all reading comes to its end. */
        void stop(int number) {
            if (fault == 0) {
                boolean excess = at >= 0 && at < size && kinds[at] == EXCESS;
                fault = excess ? NO_ROOM : number;
                faultToken = at;
            }
            at = size;
        }

        /** Of the faults that do not stop the reading the first one from the left stays. */
        void blame(int number, int token) {
            if (fault == 0 || token < faultToken || token == faultToken && number < fault) {
                fault = number;
                faultToken = token;
            }
        }

        int kindOf(int token) {
            return token >= 0 && token < size ? kinds[token] : STOP;
        }

        int placeOf(int token) {
            return token >= 0 && token < size ? places[token] : NOWHERE;
        }

        int valueOf(int token) {
            return token >= 0 && token < size ? values[token] : 0;
        }

        void addTo(Names names, int token) {
            if (token >= 0 && token < size) {
                names.add(highs[token], lows[token]);
            }
        }

        /** The first one of the names from .. to - 1 that is this token. */
        int findIn(Names names, int token, int from, int to) {
            if (token < 0 || token >= size) {
                return NONE;
            }
            int end = Math.min(to, names.size);
            for (int i = Math.max(0, from); i < end; i++) {
                if (names.high[i] == highs[token] && names.low[i] == lows[token]) {
                    return i;
                }
            }
            return NONE;
        }

        private int byteAt(int i) {
            return i >= 0 && i < length ? text[i] : -1;
        }

        /** False, at its first byte, if a comment is not closed. */
        private boolean skipBlanks() {
            for (int turn = 0; turn <= length; turn++) {
                int here = byteAt(position);
                int behind = byteAt(position + 1);
                if (here == ' ' || here == '\n' || here == '\t' || here == '\r') {
                    position++;
                } else if (here == '/' && behind == '/') {
                    skipLine();
                } else if (here == '/' && behind == '*') {
                    int start = position;
                    skipComment();
                    if (position == start) {
                        return false;
                    }
                } else {
                    return true;
                }
            }
            return true;
        }

        private void skipLine() {
            while (position < length && byteAt(position) != '\n') {
                position++;
            }
        }

        private void skipComment() {
            for (int i = position + 2; i < length; i++) {
                if (byteAt(i) == '*' && byteAt(i + 1) == '/') {
                    position = i + 2;
                    return;
                }
            }
        }

        private int readToken(int token) {
            int here = byteAt(position);
            if (here < 0) {
                return END;
            }
            if (isDigit(here)) {
                return readNumber(token);
            }
            if (isLetter(here) || here == '_' && !ofChips) {
                return readWord(token);
            }
            if (here == '"' && !ofChips) {
                return readString(token);
            }
            return readSign(here);
        }

        private int wordEnd() {
            int end = position;
            while (end < length && (isLetter(byteAt(end)) || isDigit(byteAt(end)) || byteAt(end) == '_')) {
                end++;
            }
            return end;
        }

        private int readWord(int token) {
            int end = wordEnd();
            if (end - position > Names.MOST_BYTES) {
                return BAD;
            }
            highs[token] = Names.half(text, position, end);
            lows[token] = Names.half(text, position + Names.HALF, end);
            position = end;
            Names keywords = ofChips ? chipWords : languageWords;
            int keyword = keywords.find(highs[token], lows[token], 0, keywords.size);
            if (keyword == NONE) {
                return NAME;
            }
            return keyword + (ofChips ? CHIP : CLASS);
        }

        private int readNumber(int token) {
            int end = wordEnd();
            if (end - position > (ofChips ? 2 : 5)) {
                return BAD;
            }
            int value = 0;
            for (int i = position; i < end; i++) {
                if (!isDigit(byteAt(i))) {
                    return BAD;
                }
                value = 10 * value + byteAt(i) - '0';
            }
            values[token] = value;
            position = end;
            return value > LARGEST_WORD ? BAD : NUMBER;
        }

        private int readString(int token) {
            int end = position + 1;
            while (end < length && byteAt(end) >= ' ' && byteAt(end) <= '~' && byteAt(end) != '"') {
                end++;
            }
            values[token] = end - position - 1;
            if (byteAt(end) != '"' || values[token] > MOST_STRING_BYTES) {
                return BAD;
            }
            position = end + 1;
            return STRING;
        }

        private int readSign(int here) {
            if (ofChips && here == '.' && byteAt(position + 1) == '.') {
                position += 2;
                return '.';
            }
            String signs = ofChips ? CHIP_SIGNS : LANGUAGE_SIGNS;
            if (signs.indexOf((char) here) < 0) {
                return BAD;
            }
            position++;
            return here;
        }
    }

    private static boolean isDigit(int b) {
        return b >= '0' && b <= '9';
    }

    private static boolean isLetter(int b) {
        return b >= 'a' && b <= 'z' || b >= 'A' && b <= 'Z';
    }

    /** The classes, subs and variables that are told, those of the system ahead of the text's. */
    private static final class Scope {
        private static final int ALL_CLASSES = SYSTEM_CLASSES + 12;
        private static final int ALL_SUBS = SYSTEM_SUBS + 60;
        private static final int MOST_OF_A_SEGMENT = 12;
        private static final int ALL_VARIABLES = 4 * MOST_OF_A_SEGMENT;
        private final Names classes = new Names(ALL_CLASSES, SYSTEM_CLASS_NAMES);
        private final Names subs = new Names(ALL_SUBS, MATH_SUBS);
        private final int[] firstSubs = Arrays.copyOf(SYSTEM_FIRST_SUBS, ALL_CLASSES + 1);
        private final int[] parameters = Arrays.copyOf(SYSTEM_PARAMETERS, ALL_SUBS);
        private final int[] roles = new int[ALL_SUBS];
        private final Names variables = new Names(ALL_VARIABLES, "");
        private final int[] types = new int[ALL_VARIABLES];
        private final int[] segments = new int[ALL_VARIABLES];
        private final int[] numbers = new int[ALL_VARIABLES];
        private final int[] cells = new int[ALL_VARIABLES];
        private final int[] used = new int[SEGMENTS];
        private int ownClass;
        private int ownSub;
        private int ownRole;
        private int firstStatic;
        private int classVariables;

        Scope() {
            subs.addWords(MEMORY_SUBS);
            subs.addWords(ARRAY_SUBS);
            subs.addWords(STRING_METHODS);
            subs.addWords(STRING_FUNCTIONS);
            subs.addWords(OUTPUT_SUBS);
            subs.addWords(KEYBOARD_SUBS);
            subs.addWords(SCREEN_SUBS);
            subs.addWords(SYS_SUBS);
            for (int i = 0; i < SYSTEM_SUBS; i++) {
                boolean method = i == ARRAY_DISPOSE || i >= STRING_LENGTH && i <= STRING_DISPOSE;
                roles[i] = method ? METHOD : FUNCTION;
            }
        }

        void beginText(boolean told) {
            if (!told) {
                classes.keep(SYSTEM_CLASSES);
                subs.keep(SYSTEM_SUBS);
            }
            ownClass = SYSTEM_CLASSES - 1;
            ownSub = SYSTEM_SUBS - 1;
            used[STATICS] = 0;
        }

        void beginClass() {
            ownClass++;
            used[FIELDS] = 0;
            firstStatic = used[STATICS];
            classVariables = 0;
            variables.keep(0);
        }

        void beginSub(int role) {
            ownSub++;
            ownRole = role;
            used[ARGUMENT] = 0;
            used[LOCAL] = 0;
            variables.keep(classVariables);
        }

        void tellClass() {
            if (ownClass < ALL_CLASSES) {
                firstSubs[ownClass] = subs.size;
                firstSubs[ownClass + 1] = subs.size;
            }
        }

        void tellSub() {
            if (ownSub < ALL_SUBS && ownClass < ALL_CLASSES) {
                roles[ownSub] = ownRole;
                parameters[ownSub] = 0;
                firstSubs[ownClass + 1] = subs.size;
            }
        }

        /** A text can stop ahead of its first sub's name: the system's last sub stays as it is then. */
        void tellParameters() {
            if (ownSub >= SYSTEM_SUBS && ownSub < ALL_SUBS) {
                parameters[ownSub] = used[ARGUMENT];
            }
        }

        boolean isFull(int segment) {
            return used[segment] >= MOST_OF_A_SEGMENT;
        }

        /** Where the names begin among which one of this segment must be new. */
        int firstRival(int segment) {
            return segment == STATICS || segment == FIELDS ? 0 : classVariables;
        }

        /** Called when the name itself has been added to the variables. */
        void addVariable(int segment, int type) {
            int v = variables.size - 1;
            if (v < 0) {
                return;
            }
            int number = used[segment];
            types[v] = type;
            segments[v] = segment;
            cells[v] = number;
            numbers[v] = segment == STATICS ? number - firstStatic : number;
            if (segment == ARGUMENT && ownRole == METHOD) {
                numbers[v] = number + 1;
            }
            used[segment] = number + 1;
            if (segment == STATICS || segment == FIELDS) {
                classVariables = variables.size;
            }
        }

        int roleOf(int sub) {
            return sub >= 0 && sub < subs.size ? roles[sub] : FUNCTION;
        }

        int parametersOf(int sub) {
            return sub >= 0 && sub < subs.size ? parameters[sub] : 0;
        }

        int firstSubOf(int owner) {
            return owner >= 0 && owner <= classes.size ? firstSubs[owner] : 0;
        }

        int numberOf(int owner, int sub) {
            return 100 * owner + sub - firstSubOf(owner);
        }
    }

    /**
     * Reads a text of the language twice: the first time for its syntax, its room and what it tells,
     * the second time, when all that is told is known, for what its names mean and for its commands.
     */
    private static final class Translator {
        private static final int MOST_OPEN = 25;
        private static final int MOST_STRINGS_BYTES = 300;
        private static final int UNKNOWN_OWNER = -2;
        private final Tokens tokens;
        private final Program program;
        private final Scope scope = new Scope();
        private final Names entry = new Names(2, "Main main");
        private boolean naming;
        private int open;
        private int stringsBytes;
        private int labels;

        Translator(Tokens tokens, Program program) {
            this.tokens = tokens;
            this.program = program;
        }

        private void openSign(int sign) {
            if (tokens.kind() != sign) {
                tokens.stop(NO_SYNTAX);
            } else if (open >= MOST_OPEN) {
                tokens.stop(NO_ROOM);
            } else {
                open++;
                tokens.at++;
            }
        }

        /** The second reading is for a text in which the first one has found no fault. */
        void readText(boolean second) {
            naming = second;
            open = 0;
            stringsBytes = 0;
            tokens.rewind();
            scope.beginText(second);
            program.begin(second, tokens.placeOf(0));
            for (int turn = 0; turn < MOST_LANGUAGE_TOKENS && tokens.kind() == CLASS; turn++) {
                tokens.at++;
                readClassName();
                openSign('{');
                readClassVariables();
                for (int sub = 0; sub < MOST_LANGUAGE_TOKENS && beginsSub(tokens.kind()); sub++) {
                    readSub();
                }
                tokens.expect('}');
                open--;
            }
            tokens.expect(END);
            if (second) {
                findMain();
                program.settleCalls();
            }
        }

        private static boolean beginsSub(int kind) {
            return kind == CONSTRUCTOR || kind == FUNCTION || kind == METHOD;
        }

        private void findMain() {
            Names classes = scope.classes;
            int owner = classes.find(entry.high[0], entry.low[0], 0, classes.size);
            int behind = owner == NONE ? 0 : scope.firstSubOf(owner + 1);
            int sub = scope.subs.find(entry.high[1], entry.low[1], scope.firstSubOf(owner), behind);
            if (sub == NONE || scope.roleOf(sub) != FUNCTION || scope.parametersOf(sub) != 0) {
                tokens.blame(NO_MAIN, tokens.size - 1);
            } else {
                program.chooseMain(sub);
            }
        }

        private void readClassName() {
            if (tokens.kind() != NAME) {
                tokens.stop(NO_SYNTAX);
            } else if (!naming && scope.classes.size >= Scope.ALL_CLASSES) {
                tokens.stop(NO_ROOM);
            } else {
                scope.beginClass();
                if (!naming) {
                    tokens.addTo(scope.classes, tokens.at);
                    scope.tellClass();
                } else if (findClass(tokens.at) != scope.ownClass) {
                    tokens.blame(TWICE, tokens.at);
                }
                tokens.at++;
            }
        }

        private int findClass(int token) {
            return tokens.findIn(scope.classes, token, 0, Scope.ALL_CLASSES);
        }

        private void readClassVariables() {
            int kind = tokens.kind();
            for (int turn = 0; turn < MOST_LANGUAGE_TOKENS && (kind == STATIC || kind == FIELD); turn++) {
                tokens.at++;
                readVariables(kind == STATIC ? STATICS : FIELDS);
                kind = tokens.kind();
            }
        }

        private void readVariables(int segment) {
            int type = readType();
            declare(segment, type);
            for (int turn = 0; turn < MOST_LANGUAGE_TOKENS && tokens.kind() == ','; turn++) {
                tokens.at++;
                declare(segment, type);
            }
            tokens.expect(';');
        }

        private int readType() {
            int kind = tokens.kind();
            int found = NONE;
            if (kind == NAME) {
                found = findClass(tokens.at);
                if (naming && found == NONE) {
                    tokens.blame(NO_SUCH_NAME, tokens.at);
                }
            } else if (kind != INT && kind != CHAR && kind != BOOLEAN) {
                tokens.stop(NO_SYNTAX);
                return NONE;
            }
            tokens.at++;
            return found;
        }

        private void declare(int segment, int type) {
            if (tokens.kind() != NAME) {
                tokens.stop(NO_SYNTAX);
            } else if (scope.isFull(segment)) {
                tokens.stop(NO_ROOM);
            } else {
                int first = scope.firstRival(segment);
                if (naming && tokens.findIn(scope.variables, tokens.at, first, Scope.ALL_VARIABLES) != NONE) {
                    tokens.blame(TWICE, tokens.at);
                }
                tokens.addTo(scope.variables, tokens.at);
                scope.addVariable(segment, type);
                tokens.at++;
            }
        }

        private void readSub() {
            int role = tokens.kind();
            tokens.at++;
            if (tokens.kind() == VOID) {
                tokens.at++;
            } else {
                readType();
            }
            readSubName(role);
            readParameters();
            openSign('{');
            for (int turn = 0; turn < MOST_LANGUAGE_TOKENS && tokens.kind() == VAR; turn++) {
                tokens.at++;
                readVariables(LOCAL);
            }
            labels = 0;
            beginBody(role);
            readStatements();
            program.add(PUSH, CONSTANT, 0);
            program.add(LEAVE, 0, 0);
            program.endSub();
            tokens.expect('}');
            open--;
        }

        private void readSubName(int role) {
            if (tokens.kind() != NAME) {
                tokens.stop(NO_SYNTAX);
            } else if (!naming && scope.subs.size >= Scope.ALL_SUBS) {
                tokens.stop(NO_ROOM);
            } else {
                scope.beginSub(role);
                if (!naming) {
                    tokens.addTo(scope.subs, tokens.at);
                    scope.tellSub();
                } else if (findSub(scope.ownClass, tokens.at) != scope.ownSub) {
                    tokens.blame(TWICE, tokens.at);
                }
                tokens.at++;
            }
        }

        private int findSub(int owner, int token) {
            int behind = owner == NONE ? 0 : scope.firstSubOf(owner + 1);
            return tokens.findIn(scope.subs, token, scope.firstSubOf(owner), behind);
        }

        private void readParameters() {
            tokens.expect('(');
            if (tokens.kind() != ')') {
                declare(ARGUMENT, readType());
                for (int turn = 0; turn < MOST_LANGUAGE_TOKENS && tokens.kind() == ','; turn++) {
                    tokens.at++;
                    declare(ARGUMENT, readType());
                }
            }
            tokens.expect(')');
            scope.tellParameters();
        }

        private void beginBody(int role) {
            program.beginSub(scope.ownSub);
            program.add(ENTER, scope.numberOf(scope.ownClass, scope.ownSub), scope.used[LOCAL]);
            if (role == METHOD) {
                program.add(PUSH, ARGUMENT, 0);
                program.add(POP, POINTER, 0);
            } else if (role == CONSTRUCTOR) {
                program.add(PUSH, CONSTANT, Math.max(1, scope.used[FIELDS]));
                program.add(CALL, NUMBER_OF_ALLOC, 1);
                program.aim(MEMORY_ALLOC);
                program.add(POP, POINTER, 0);
            }
        }

        private void readStatements() {
            for (int turn = 0; turn < MOST_LANGUAGE_TOKENS && beginsStatement(tokens.kind()); turn++) {
                int kind = tokens.kind();
                int place = tokens.placeOf(tokens.at);
                program.markNext(place);
                tokens.at++;
                switch (kind) {
                    case LET:
                        readLet();
                        break;
                    case IF:
                        readIf();
                        break;
                    case WHILE:
                        readWhile(place);
                        break;
                    case DO:
                        readDo();
                        break;
                    default:
                        readReturn();
                        break;
                }
            }
        }

        private static boolean beginsStatement(int kind) {
            return kind == LET || kind == IF || kind == WHILE || kind == DO || kind == RETURN;
        }

        private void readBlock() {
            openSign('{');
            readStatements();
            tokens.expect('}');
            open--;
        }

        private void readLet() {
            int v = findVariable(tokens.at);
            checkVariable(v, tokens.at);
            tokens.expect(NAME);
            boolean indexed = tokens.kind() == '[';
            if (indexed) {
                addVariable(PUSH, v);
                readIndex();
            }
            tokens.expect('=');
            readExpression();
            tokens.expect(';');
            if (indexed) {
                program.add(POP, TEMP, 0);
                program.add(POP, POINTER, 1);
                program.add(PUSH, TEMP, 0);
                program.add(POP, THAT, 0);
            } else {
                addVariable(POP, v);
            }
        }

        private void readIndex() {
            openSign('[');
            readExpression();
            tokens.expect(']');
            open--;
            program.add(ADD, 0, 0);
        }

        private int takeLabels() {
            labels += 2;
            return labels - 2;
        }

        private void readCondition(int label) {
            openSign('(');
            readExpression();
            tokens.expect(')');
            open--;
            program.add(PUSH, CONSTANT, 0);
            program.add(EQ, 0, 0);
            program.add(JUMP_IF, label, 0);
        }

        private void readIf() {
            int label = takeLabels();
            readCondition(label);
            readBlock();
            if (tokens.kind() != ELSE) {
                program.add(LABEL, label, 0);
                return;
            }
            tokens.at++;
            program.add(GOTO, label + 1, 0);
            program.add(LABEL, label, 0);
            readBlock();
            program.add(LABEL, label + 1, 0);
        }

        /** Marked a second time, behind its label, since each look at its condition is a step of its own. */
        private void readWhile(int place) {
            int label = takeLabels();
            program.add(LABEL, label, 0);
            program.markNext(place);
            readCondition(label + 1);
            readBlock();
            program.add(GOTO, label, 0);
            program.add(LABEL, label + 1, 0);
        }

        private void readDo() {
            readCall();
            tokens.expect(';');
            program.add(POP, TEMP, 0);
        }

        private void readReturn() {
            if (tokens.kind() == ';') {
                program.add(PUSH, CONSTANT, 0);
            } else {
                readExpression();
            }
            tokens.expect(';');
            program.add(LEAVE, 0, 0);
        }

        private void readExpression() {
            readTerm();
            for (int turn = 0; turn < MOST_LANGUAGE_TOKENS && isOperator(tokens.kind()); turn++) {
                int sign = tokens.kind();
                tokens.at++;
                readTerm();
                addOperator(sign);
            }
        }

        private static boolean isOperator(int kind) {
            return "+-*/&|<>=".indexOf((char) kind) >= 0;
        }

        private void addOperator(int sign) {
            switch (sign) {
                case '*':
                    program.add(CALL, NUMBER_OF_MULTIPLY, 2);
                    program.aim(MATH_MULTIPLY);
                    break;
                case '/':
                    program.add(CALL, NUMBER_OF_DIVIDE, 2);
                    program.aim(MATH_DIVIDE);
                    break;
                case '+':
                    program.add(ADD, 0, 0);
                    break;
                case '-':
                    program.add(SUB, 0, 0);
                    break;
                case '&':
                    program.add(AND, 0, 0);
                    break;
                case '|':
                    program.add(OR, 0, 0);
                    break;
                case '<':
                    program.add(LT, 0, 0);
                    break;
                case '>':
                    program.add(GT, 0, 0);
                    break;
                default:
                    program.add(EQ, 0, 0);
                    break;
            }
        }

        private void readTerm() {
            switch (tokens.kind()) {
                case NAME:
                    readNameTerm();
                    break;
                case '(':
                    openSign('(');
                    readExpression();
                    tokens.expect(')');
                    open--;
                    break;
                case '-':
                case '~':
                    readSignTerm();
                    break;
                case STRING:
                    readStringTerm();
                    break;
                case THIS:
                    askForThis(tokens.at);
                    program.add(PUSH, POINTER, 0);
                    tokens.at++;
                    break;
                default:
                    readConstantTerm(tokens.kind());
                    break;
            }
        }

        private void readConstantTerm(int kind) {
            if (kind != NUMBER && kind != TRUE && kind != FALSE && kind != NULL) {
                tokens.stop(NO_SYNTAX);
                return;
            }
            program.add(PUSH, CONSTANT, kind == NUMBER ? tokens.valueOf(tokens.at) : 0);
            if (kind == TRUE) {
                program.add(NOT, 0, 0);
            }
            tokens.at++;
        }

        private void readSignTerm() {
            int sign = tokens.kind();
            openSign(sign);
            readTerm();
            open--;
            program.add(sign == '-' ? NEG : NOT, 0, 0);
        }

        private void readStringTerm() {
            int bytes = tokens.valueOf(tokens.at);
            stringsBytes += bytes;
            if (stringsBytes > MOST_STRINGS_BYTES) {
                tokens.stop(NO_ROOM);
                return;
            }
            program.add(PUSH, CONSTANT, bytes);
            program.add(CALL, NUMBER_OF_STRING_NEW, 1);
            program.aim(STRING_NEW);
            for (int i = 1; i <= bytes; i++) {
                program.add(PUSH, CONSTANT, tokens.byteAt(tokens.placeOf(tokens.at) + i));
                program.add(CALL, NUMBER_OF_APPEND_CHAR, 2);
                program.aim(STRING_APPEND_CHAR);
            }
            tokens.at++;
        }

        private void readNameTerm() {
            int behind = tokens.kindOf(tokens.at + 1);
            if (behind == '(' || behind == '.') {
                readCall();
                return;
            }
            int v = findVariable(tokens.at);
            checkVariable(v, tokens.at);
            addVariable(PUSH, v);
            tokens.at++;
            if (behind == '[') {
                readIndex();
                program.add(POP, POINTER, 1);
                program.add(PUSH, THAT, 0);
            }
        }

        private void askForThis(int token) {
            if (naming && scope.ownRole == FUNCTION) {
                tokens.blame(NO_THIS, token);
            }
        }

        private int findVariable(int token) {
            int v = tokens.findIn(scope.variables, token, scope.classVariables, Scope.ALL_VARIABLES);
            return v == NONE ? tokens.findIn(scope.variables, token, 0, scope.classVariables) : v;
        }

        private void checkVariable(int v, int token) {
            if (naming && v == NONE) {
                tokens.blame(NO_SUCH_NAME, token);
            } else if (naming && scope.ownRole == FUNCTION && scope.segments[v] == FIELDS) {
                tokens.blame(NO_THIS, token);
            }
        }

        private void addVariable(int kind, int v) {
            if (v >= 0 && v < Scope.ALL_VARIABLES) {
                program.add(kind, scope.segments[v], scope.numbers[v]);
                program.aim(scope.cells[v]);
            }
        }

        private void readCall() {
            int first = tokens.at;
            boolean dotted = tokens.kindOf(tokens.at + 1) == '.';
            tokens.expect(NAME);
            if (dotted) {
                tokens.expect('.');
                tokens.expect(NAME);
            }
            int v = dotted ? findVariable(first) : NONE;
            boolean object = !dotted || v != NONE;
            if (v != NONE) {
                checkVariable(v, first);
                addVariable(PUSH, v);
            } else if (!dotted) {
                askForThis(first);
                program.add(PUSH, POINTER, 0);
            }
            openSign('(');
            int values = readArguments();
            tokens.expect(')');
            open--;
            int owner = dotted ? ownerOf(v, first) : scope.ownClass;
            if (naming && owner != UNKNOWN_OWNER) {
                int last = dotted ? first + 2 : first;
                int sub = findSub(owner, last);
                checkSub(sub, last, object, values);
                program.add(CALL, scope.numberOf(owner, sub), object ? values + 1 : values);
                program.aim(sub);
            }
        }

        private int readArguments() {
            if (tokens.kind() == ')') {
                return 0;
            }
            int values = 1;
            readExpression();
            for (int turn = 0; turn < MOST_LANGUAGE_TOKENS && tokens.kind() == ','; turn++) {
                tokens.at++;
                readExpression();
                values++;
            }
            return values;
        }

        private int ownerOf(int v, int first) {
            if (v != NONE) {
                return scope.types[v];
            }
            int owner = tokens.findIn(scope.classes, first, 0, Scope.ALL_CLASSES);
            if (naming && owner == NONE) {
                tokens.blame(NO_SUCH_NAME, first);
                return UNKNOWN_OWNER;
            }
            return owner;
        }

        private void checkSub(int sub, int last, boolean object, int values) {
            boolean method = scope.roleOf(sub) == METHOD;
            if (sub == NONE) {
                tokens.blame(NO_SUCH_NAME, last);
            } else if (method != object || scope.parametersOf(sub) != values) {
                tokens.blame(WRONG_CALL, last);
            }
        }
    }

    /** The commands of a text, with what a run needs beside them: where to jump to and which statement begins. */
    private static final class Program {
        private static final int ROOM = 3000;
        private final int[] kinds = new int[ROOM];
        private final int[] firsts = new int[ROOM];
        private final int[] seconds = new int[ROOM];
        /** Of a jump or call the command to go on with, of a call of the system its sub, of a static its cell. */
        private final int[] targets = new int[ROOM];
        /** The place of the statement that begins, or asks its condition, with this command. */
        private final int[] marks = new int[ROOM];
        private final int[] starts = new int[Scope.ALL_SUBS];
        private final int[] labelTargets = new int[MOST_LANGUAGE_TOKENS];
        private boolean recording;
        private int size;
        private int subStart;
        private int mainStart;
        private int firstPlace;
        private int pendingMark;

        /** If it is not recording, nothing is added. */
        void begin(boolean record, int place) {
            recording = record;
            size = 0;
            mainStart = 0;
            firstPlace = place;
            pendingMark = NOWHERE;
        }

        void markNext(int place) {
            pendingMark = place;
        }

        void add(int kind, int first, int second) {
            if (recording && size < ROOM) {
                kinds[size] = kind;
                firsts[size] = first;
                seconds[size] = second;
                targets[size] = 0;
                marks[size] = pendingMark;
                pendingMark = NOWHERE;
                size++;
            }
        }

        /** Sets the target of the last command. */
        void aim(int target) {
            if (recording && size > 0) {
                targets[size - 1] = target;
            }
        }

        void beginSub(int sub) {
            subStart = size;
            pendingMark = NOWHERE;
            if (sub >= 0 && sub < starts.length) {
                starts[sub] = size;
            }
        }

        /** A jump goes behind its label, so that a while that is asked again does not begin again. */
        void endSub() {
            if (!recording) {
                return;
            }
            for (int i = subStart; i < size; i++) {
                if (kinds[i] == LABEL && firsts[i] < labelTargets.length) {
                    labelTargets[firsts[i]] = i + 1;
                }
            }
            for (int i = subStart; i < size; i++) {
                if ((kinds[i] == GOTO || kinds[i] == JUMP_IF) && firsts[i] < labelTargets.length) {
                    targets[i] = labelTargets[firsts[i]];
                }
            }
        }

        void chooseMain(int sub) {
            if (sub >= 0 && sub < starts.length) {
                mainStart = starts[sub];
            }
        }

        void settleCalls() {
            for (int i = 0; i < size; i++) {
                boolean ofText = kinds[i] == CALL && firsts[i] >= FIRST_TEXT_SUB;
                if (ofText && targets[i] >= 0 && targets[i] < starts.length) {
                    targets[i] = starts[targets[i]];
                }
            }
        }

        int numberOf(int i, int what) {
            if (i < 0 || i >= size) {
                return -1;
            }
            switch (what) {
                case 0:
                    return kinds[i];
                case 1:
                    return firsts[i];
                case 2:
                    return seconds[i];
                default:
                    return -1;
            }
        }
    }

    /** The heap with its blocks, and the screen. The first error stays, and nothing is written behind it. */
    private static final class Memory {
        private static final int HEAP = 2048;
        private static final int HEAP_END = 14336;
        private static final int SCREEN = 16384;
        private static final int SCREEN_WORDS = 128;
        private static final int HEAP_WORDS = HEAP_END - HEAP;
        private static final int MOST_BLOCKS = 100;
        private static final int ROWS = 32;
        private static final int ROW_WORDS = 4;
        private static final int NO_WORD = 20;
        private static final int NO_BLOCK = 21;
        private static final int TOO_SMALL = 5;
        private static final int HEAP_FULL = 6;
        private final int[] words = new int[HEAP_WORDS + SCREEN_WORDS];
        private final int[] starts = new int[MOST_BLOCKS];
        private final int[] ends = new int[MOST_BLOCKS];
        private int blocks;
        private int wordsInBlocks;
        private boolean failed;
        private int errorNumber;

        void clear() {
            Arrays.fill(words, 0);
            blocks = 0;
            wordsInBlocks = 0;
            failed = false;
            errorNumber = 0;
        }

        /** Gives 0, so that a sub can end with it. */
        int fail(int number) {
            if (!failed) {
                failed = true;
                errorNumber = number;
            }
            return 0;
        }

        private static int indexOf(int address) {
            if (address >= HEAP && address < HEAP_END) {
                return address - HEAP;
            }
            if (address >= SCREEN && address < SCREEN + SCREEN_WORDS) {
                return address - SCREEN + HEAP_WORDS;
            }
            return NONE;
        }

        int wordOr(int address, int other) {
            int i = indexOf(address);
            return i == NONE ? other : words[i];
        }

        int read(int address) {
            int i = indexOf((short) address);
            return i == NONE ? fail(NO_WORD) : words[i];
        }

        int write(int address, int value) {
            int i = indexOf((short) address);
            if (i == NONE) {
                return fail(NO_WORD);
            }
            if (!failed) {
                words[i] = (short) value;
            }
            return 0;
        }

        long screenRow(int y) {
            if (y < 0 || y >= ROWS) {
                return 0;
            }
            long points = 0;
            for (int i = ROW_WORDS - 1; i >= 0; i--) {
                points = points << 16 | words[HEAP_WORDS + ROW_WORDS * y + i] & 0xFFFF;
            }
            return points;
        }

        /** Sets or clears these bits of word i of row y of the screen. */
        int paint(int y, int i, int bits, boolean clearing) {
            int index = HEAP_WORDS + ROW_WORDS * y + i;
            if (index >= HEAP_WORDS && index < words.length) {
                words[index] = (short) (clearing ? words[index] & ~bits : words[index] | bits);
            }
            return 0;
        }

        int clearScreen() {
            for (int i = HEAP_WORDS; i < words.length; i++) {
                words[i] = 0;
            }
            return 0;
        }

        int allocate(int n) {
            if (failed) {
                return 0;
            }
            if (n < 1) {
                return fail(TOO_SMALL);
            }
            if (blocks >= MOST_BLOCKS) {
                return fail(HEAP_FULL);
            }
            int free = HEAP;
            int i = 0;
            while (i < blocks && starts[i] - free < n) {
                free = ends[i];
                i++;
            }
            if (i == blocks && HEAP_END - free < n) {
                return fail(HEAP_FULL);
            }
            insertBlock(i, free, n);
            return free;
        }

        private void insertBlock(int index, int start, int n) {
            for (int i = Math.min(blocks, MOST_BLOCKS - 1); i > index; i--) {
                starts[i] = starts[i - 1];
                ends[i] = ends[i - 1];
            }
            starts[index] = start;
            ends[index] = start + n;
            blocks++;
            wordsInBlocks += n;
        }

        int release(int address) {
            int found = NONE;
            for (int i = 0; i < blocks; i++) {
                if (starts[i] == address) {
                    found = i;
                }
            }
            if (found == NONE) {
                return fail(NO_BLOCK);
            }
            wordsInBlocks -= ends[found] - starts[found];
            blocks--;
            for (int i = found; i < blocks; i++) {
                starts[i] = starts[i + 1];
                ends[i] = ends[i + 1];
            }
            return 0;
        }
    }

    /** The subs of the system, with the output and the keys. */
    private static final class Library {
        private static final int MOST_KEYS = 200;
        private static final int MOST_OUTPUT = 3000;
        private static final int FETCHED = 7;
        private static final int LINE_ROOM = 80;
        private static final int COLUMNS = 64;
        private static final int WORD_POINTS = 16;
        private static final int LARGEST_RADIUS = 31;
        private static final int LARGEST_ROOT = 181;
        private final Memory memory;
        private final int[] output = new int[MOST_OUTPUT];
        private final int[] keys = new int[MOST_KEYS];
        private int written;
        private int taken;
        private int keyCount;
        private int keysTaken;
        private int keysLeft;
        private boolean clearing;
        private boolean halted;

        Library(Memory memory) {
            this.memory = memory;
        }

        void takeKeys(int[] bytes, int n) {
            keyCount = Math.max(0, Math.min(n, Math.min(MOST_KEYS, bytes.length)));
            System.arraycopy(bytes, 0, keys, 0, keyCount);
        }

        void beginRun() {
            written = 0;
            taken = 0;
            keysTaken = 0;
            clearing = false;
            halted = false;
        }

        /** Kept apart from the keys themselves, which may be others before the next run. */
        void endRun() {
            keysLeft = keyCount - keysTaken;
        }

        int waitingOutput() {
            return written - taken;
        }

        long takeOutput() {
            int n = Math.min(FETCHED, waitingOutput());
            if (n <= 0) {
                return 0;
            }
            long packed = n;
            for (int i = 0; i < FETCHED; i++) {
                packed = packed << 8 | (i < n ? output[taken + i] : 0);
            }
            taken += n;
            return packed;
        }

        /** Subs that give nothing give 0; so does one that fails, which is looked at behind it. */
        int perform(int sub, int a, int b, int c, int d) {
            switch (sub) {
                case MATH_ABS: return (short) Math.abs(a);
                case MATH_MIN: return Math.min(a, b);
                case MATH_MAX: return Math.max(a, b);
                case MATH_MULTIPLY: return (short) (a * b);
                case MATH_DIVIDE: return b == 0 ? memory.fail(3) : (short) (a / b);
                case MATH_SQRT: return a < 0 ? memory.fail(4) : root(a);
                case MEMORY_PEEK: return memory.read(a);
                case MEMORY_POKE: return memory.write(a, b);
                case MEMORY_ALLOC: return memory.allocate(a);
                case MEMORY_DE_ALLOC: return memory.release(a);
                case ARRAY_NEW: return a < 1 ? memory.fail(2) : memory.allocate(a);
                case ARRAY_DISPOSE: return memory.release(a);
                case STRING_NEW: return newString(a);
                case STRING_LENGTH: return memory.read(a + 1);
                case STRING_CHAR_AT: return charAt(a, b);
                case STRING_SET_CHAR_AT: return setCharAt(a, b, c);
                case STRING_APPEND_CHAR: return appendChar(a, b);
                case STRING_ERASE_LAST_CHAR: return eraseLastChar(a);
                case STRING_INT_VALUE: return intValue(a);
                case STRING_SET_INT: return setInt(a, b);
                case STRING_DISPOSE: return memory.release(a);
                case STRING_NEW_LINE: return '\n';
                case STRING_DOUBLE_QUOTE: return '"';
                case STRING_BACK_SPACE: return '\b';
                case OUTPUT_PRINT_CHAR: return printChar(a);
                case OUTPUT_PRINT_STRING: return printString(a);
                case OUTPUT_PRINT_INT: return printInt(a);
                case OUTPUT_PRINTLN: return printChar('\n');
                case KEYBOARD_KEY_PRESSED: return nextKey();
                case KEYBOARD_READ_CHAR: return readChar();
                case KEYBOARD_READ_LINE: return readLine(a);
                case SCREEN_CLEAR: return memory.clearScreen();
                case SCREEN_SET_COLOR: return setColor(a);
                case SCREEN_DRAW_PIXEL: return isPoint(a, b) ? drawPoint(a, b) : memory.fail(7);
                case SCREEN_DRAW_LINE: return drawLine(a, b, c, d);
                case SCREEN_DRAW_RECTANGLE: return drawRectangle(a, b, c, d);
                case SCREEN_DRAW_CIRCLE: return drawCircle(a, b, c);
                case SYS_HALT: return halt();
                case SYS_ERROR: return memory.fail(a);
                case SYS_WAIT: return a < 1 ? memory.fail(1) : 0;
                default: return 0;
            }
        }

        private static int root(int x) {
            int r = 0;
            while (r < LARGEST_ROOT && (r + 1) * (r + 1) <= x) {
                r++;
            }
            return r;
        }

        private int newString(int n) {
            if (n < 0) {
                return memory.fail(14);
            }
            int o = memory.allocate((short) (n + 2));
            if (!memory.failed) {
                memory.write(o, n);
                memory.write(o + 1, 0);
            }
            return o;
        }

        private int charAt(int o, int j) {
            if (j < 0 || j >= memory.read(o + 1)) {
                return memory.fail(15);
            }
            return memory.read(o + 2 + j);
        }

        private int setCharAt(int o, int j, int c) {
            if (j < 0 || j >= memory.read(o + 1)) {
                return memory.fail(16);
            }
            return memory.write(o + 2 + j, c);
        }

        private int appendChar(int o, int c) {
            int length = memory.read(o + 1);
            if (length >= memory.read(o)) {
                return memory.fail(17);
            }
            memory.write(o + 2 + length, c);
            memory.write(o + 1, length + 1);
            return o;
        }

        private int eraseLastChar(int o) {
            int length = memory.read(o + 1);
            return length < 1 ? memory.fail(18) : memory.write(o + 1, length - 1);
        }

        private int intValue(int o) {
            int length = memory.read(o + 1);
            boolean minus = length > 0 && memory.read(o + 2) == '-';
            int value = 0;
            for (int j = minus ? 1 : 0; j < length && !memory.failed; j++) {
                int c = memory.read(o + 2 + j);
                if (!isDigit(c)) {
                    break;
                }
                value = (short) (10 * value + c - '0');
            }
            return (short) (minus ? -value : value);
        }

        private int setInt(int o, int v) {
            memory.write(o + 1, 0);
            if (v < 0) {
                appendChar(o, '-');
            }
            int size = Math.abs(v);
            for (int unit = highestUnit(size); unit > 0; unit /= 10) {
                appendChar(o, '0' + size / unit % 10);
            }
            return 0;
        }

        private static int highestUnit(int size) {
            int unit = 1;
            while (unit < 10000 && size / unit >= 10) {
                unit *= 10;
            }
            return unit;
        }

        private int printChar(int c) {
            if (written < MOST_OUTPUT) {
                output[written] = c & 255;
                written++;
            }
            return 0;
        }

        private int printString(int s) {
            int length = memory.read(s + 1);
            for (int j = 0; j < length && !memory.failed; j++) {
                int c = memory.read(s + 2 + j);
                if (!memory.failed) {
                    printChar(c);
                }
            }
            return 0;
        }

        private int printInt(int v) {
            if (v < 0) {
                printChar('-');
            }
            int size = Math.abs(v);
            for (int unit = highestUnit(size); unit > 0; unit /= 10) {
                printChar('0' + size / unit % 10);
            }
            return 0;
        }

        private int nextKey() {
            return keysTaken < keyCount && keysTaken < MOST_KEYS ? keys[keysTaken] : 0;
        }

        private int readChar() {
            int key = nextKey();
            if (keysTaken < keyCount) {
                keysTaken++;
            }
            return key;
        }

        private int readLine(int s) {
            printString(s);
            if (memory.failed) {
                return 0;
            }
            int line = newString(LINE_ROOM);
            for (int i = keysTaken; i < keyCount && !memory.failed; i++) {
                int key = readChar();
                if (key == '\n') {
                    break;
                }
                appendChar(line, key);
            }
            return line;
        }

        private static boolean isPoint(int x, int y) {
            return x >= 0 && x < COLUMNS && y >= 0 && y < Memory.ROWS;
        }

        private int setColor(int b) {
            clearing = b == 0;
            return 0;
        }

        private int halt() {
            halted = true;
            return 0;
        }

        private int drawLine(int x, int y, int u, int v) {
            if (!isPoint(x, y) || !isPoint(u, v)) {
                return memory.fail(8);
            }
            int dx = Math.abs(u - x);
            int dy = Math.abs(v - y);
            int a = 0;
            int b = 0;
            int d = dy == 0 ? -1 : 0;
            for (int turn = 0; turn <= dx + dy && a <= dx && b <= dy; turn++) {
                drawPoint(u < x ? x - a : x + a, v < y ? y - b : y + b);
                if (d < 0) {
                    a++;
                    d += dy;
                } else {
                    b++;
                    d -= dx;
                }
            }
            return 0;
        }

        private int drawRectangle(int x, int y, int u, int v) {
            if (x > u || y > v || !isPoint(x, y) || !isPoint(u, v)) {
                return memory.fail(9);
            }
            for (int j = y; j <= v; j++) {
                drawSpan(x, u, j);
            }
            return 0;
        }

        private int drawPoint(int x, int y) {
            return memory.paint(y, x / WORD_POINTS, 1 << x % WORD_POINTS, clearing);
        }

        /** Word by word, since a point by itself would take too long for large rectangles. */
        private void drawSpan(int from, int to, int y) {
            for (int i = 0; i < Memory.ROW_WORDS; i++) {
                int low = Math.max(from - WORD_POINTS * i, 0);
                int high = Math.min(to - WORD_POINTS * i, WORD_POINTS - 1);
                if (low <= high) {
                    memory.paint(y, i, (1 << high + 1) - (1 << low), clearing);
                }
            }
        }

        private int drawCircle(int x, int y, int r) {
            if (r < 0 || r > LARGEST_RADIUS || !isPoint(x - r, y - r) || !isPoint(x + r, y + r)) {
                return memory.fail(13);
            }
            for (int e = -r; e <= r; e++) {
                int w = root(r * r - e * e);
                drawSpan(x - w, x + w, y + e);
            }
            return 0;
        }
    }

    /** Runs a program's commands on a stack of its own, so that deep calls of a text need none of Java's. */
    private static final class Machine {
        private static final int RUNNING = -1;
        private static final int DONE = 0;
        private static final int NO_FUEL = 1;
        private static final int TOO_DEEP = 2;
        private static final int ERROR = 3;
        private static final int MOST_CALLS = 40;
        /** Numbers of a caller that are kept: its next command, arguments, locals, object and statement. */
        private static final int FRAME = 5;
        /** More than 40 calls can hold, each with some 320 values that wait within 25 open signs. */
        private static final int STACK_ROOM = 16384;
        /** More than 5000 steps can need, each of at most all commands of a program. */
        private static final int MOST_TURNS = 20000000;
        private final Program program;
        private final Memory memory;
        private final Library library;
        private final int[] stack = new int[STACK_ROOM];
        /** Of each call what its caller goes on with. */
        private final int[] frames = new int[MOST_CALLS * FRAME];
        private final int[] statics = new int[Scope.MOST_OF_A_SEGMENT];
        private int top;
        private int next;
        private int arguments;
        private int locals;
        private int object;
        private int that;
        private int temp;
        private int depth;
        private int end;
        private int fuel;
        private int steps;
        private int deepest;
        private int statementPlace = NOWHERE;

        Machine(Program program, Memory memory, Library library) {
            this.program = program;
            this.memory = memory;
            this.library = library;
        }

        int execute(int mostSteps) {
            memory.clear();
            library.beginRun();
            Arrays.fill(statics, 0);
            top = 0;
            depth = 0;
            steps = 0;
            deepest = 0;
            fuel = mostSteps;
            end = RUNNING;
            statementPlace = program.firstPlace;
            enter(program.mainStart, 0);
            for (int turn = 0; turn < MOST_TURNS && end == RUNNING; turn++) {
                int i = next;
                if (i < 0 || i >= program.size) {
                    end = DONE;
                } else if (mayBegin(program.marks[i])) {
                    next = i + 1;
                    doCommand(program.kinds[i], program.firsts[i], program.seconds[i], program.targets[i]);
                }
            }
            library.endRun();
            return end;
        }

        private boolean spendStep() {
            if (steps >= fuel) {
                end = NO_FUEL;
                return false;
            }
            steps++;
            return true;
        }

        private boolean mayBegin(int mark) {
            if (mark == NOWHERE) {
                return true;
            }
            statementPlace = mark;
            return spendStep();
        }

        private void doCommand(int kind, int first, int second, int target) {
            switch (kind) {
                case PUSH:
                    push(valueOf(first, second, target));
                    break;
                case POP:
                    assign(first, second, target, pop());
                    break;
                case LABEL:
                    break;
                case GOTO:
                    next = target;
                    break;
                case JUMP_IF:
                    next = pop() != 0 ? target : next;
                    break;
                case ENTER:
                    makeLocals(second);
                    break;
                case CALL:
                    if (first >= FIRST_TEXT_SUB) {
                        enter(target, second);
                    } else {
                        int base = top - second;
                        int result = library.perform(target, at(base), at(base + 1), at(base + 2), at(base + 3));
                        top = Math.max(0, base);
                        push(result);
                    }
                    break;
                case LEAVE:
                    leave();
                    break;
                default:
                    calculate(kind, pop());
                    break;
            }
            if (memory.failed) {
                end = ERROR;
            } else if (library.halted) {
                end = DONE;
            }
        }

        private void push(int value) {
            if (top < STACK_ROOM) {
                stack[top] = value;
                top++;
            }
        }

        private int pop() {
            if (top > 0) {
                top--;
            }
            return stack[top];
        }

        private int at(int index) {
            return index >= 0 && index < STACK_ROOM ? stack[index] : 0;
        }

        private void putAt(int index, int value) {
            if (index >= 0 && index < STACK_ROOM) {
                stack[index] = value;
            }
        }

        private int valueOf(int segment, int number, int cell) {
            switch (segment) {
                case CONSTANT:
                    return number;
                case ARGUMENT:
                    return at(arguments + number);
                case LOCAL:
                    return at(locals + number);
                case STATICS:
                    return cell >= 0 && cell < statics.length ? statics[cell] : 0;
                case FIELDS:
                    return memory.read(object + number);
                case THAT:
                    return memory.read(that + number);
                case POINTER:
                    return number == 0 ? object : that;
                default:
                    return temp;
            }
        }

        private void assign(int segment, int number, int cell, int value) {
            switch (segment) {
                case ARGUMENT:
                    putAt(arguments + number, value);
                    break;
                case LOCAL:
                    putAt(locals + number, value);
                    break;
                case STATICS:
                    if (cell >= 0 && cell < statics.length) {
                        statics[cell] = value;
                    }
                    break;
                case FIELDS:
                    memory.write(object + number, value);
                    break;
                case THAT:
                    memory.write(that + number, value);
                    break;
                case POINTER:
                    if (number == 0) {
                        object = value;
                    } else {
                        that = value;
                    }
                    break;
                default:
                    temp = value;
                    break;
            }
        }

        private void calculate(int kind, int right) {
            if (kind == NEG) {
                push((short) -right);
                return;
            }
            if (kind == NOT) {
                push(~right);
                return;
            }
            int left = pop();
            switch (kind) {
                case ADD:
                    push((short) (left + right));
                    break;
                case SUB:
                    push((short) (left - right));
                    break;
                case AND:
                    push(left & right);
                    break;
                case OR:
                    push(left | right);
                    break;
                case EQ:
                    push(left == right ? -1 : 0);
                    break;
                case LT:
                    push(left < right ? -1 : 0);
                    break;
                default:
                    push(left > right ? -1 : 0);
                    break;
            }
        }

        private void enter(int start, int values) {
            if (!spendStep()) {
                return;
            }
            if (depth >= MOST_CALLS) {
                end = TOO_DEEP;
                return;
            }
            int frame = depth * FRAME;
            frames[frame] = next;
            frames[frame + 1] = arguments;
            frames[frame + 2] = locals;
            frames[frame + 3] = object;
            frames[frame + 4] = statementPlace;
            depth++;
            deepest = Math.max(deepest, depth);
            arguments = Math.max(0, top - values);
            next = start;
        }

        private void makeLocals(int count) {
            locals = top;
            for (int i = 0; i < count; i++) {
                push(0);
            }
        }

        private void leave() {
            int value = pop();
            top = arguments;
            push(value);
            if (depth > 0) {
                depth--;
            }
            int frame = depth * FRAME;
            next = frames[frame];
            arguments = frames[frame + 1];
            locals = frames[frame + 2];
            object = frames[frame + 3];
            statementPlace = frames[frame + 4];
            if (depth == 0) {
                end = DONE;
            }
        }
    }

    /** The processor with its store, and the reading of the signs of its words. */
    private static final class Processor {
        private static final int STORE_WORDS = 32768;
        private static final int LOWEST_15_BITS = LARGEST_WORD;
        private static final int MOST_WORDS = 1500;
        private static final int MOST_SYMBOLS = 100;
        private static final int KNOWN_SYMBOLS = 23;
        private static final int FIRST_VARIABLE = 16;
        private static final int UNTOLD = -1;
        private static final int LABEL_TWICE = 3;
        private static final int COMPUTE = 57344;
        private static final int FROM_STORE = 4096;
        private static final String KNOWN_NAMES =
            "R0 R1 R2 R3 R4 R5 R6 R7 R8 R9 R10 R11 R12 R13 R14 R15 SP LCL ARG THIS THAT SCREEN KBD";
        private static final int[] KNOWN_VALUES = {
            0, 1, 2, 3, 4, 5, 6, 7, 8, 9, 10, 11, 12, 13, 14, 15, 0, 1, 2, 3, 4, 16384, 24576};
        private static final String COMPS =
            "0 1 -1 D A !D !A -D -A D+1 A+1 D-1 A-1 D+A D-A A-D D&A D|A M !M -M M+1 M-1 D+M D-M M-D D&M D|M";
        /** The six bits of each of COMPS, 64 more for those with M. */
        private static final int[] COMP_BITS = {
            42, 63, 58, 12, 48, 13, 49, 15, 51, 31, 55, 14, 50, 2, 19, 7, 0, 21,
            112, 113, 115, 119, 114, 66, 83, 71, 64, 85};
        private final int[] text;
        private final Names comps = new Names(28, COMPS);
        private final Names dests = new Names(7, "M D MD A AM AD AMD");
        private final Names jumps = new Names(7, "JGT JEQ JGE JLT JNE JLE JMP");
        private final Names symbols = new Names(KNOWN_SYMBOLS + MOST_SYMBOLS, KNOWN_NAMES);
        private final int[] symbolValues = Arrays.copyOf(KNOWN_VALUES, KNOWN_SYMBOLS + MOST_SYMBOLS);
        /** While the text is read, -1 - s stands for the value of symbol s, which may be told later. */
        private final int[] words = new int[MOST_WORDS];
        private final int[] storage = new int[STORE_WORDS];
        private int size;
        private int a;
        private int d;
        private int next;
        private int done;
        private int length;
        private int fault;
        private int faultPlace;

        Processor(int[] text) {
            this.text = text;
        }

        static boolean isAddress(int address) {
            return address >= 0 && address < STORE_WORDS;
        }

        int ownSymbols() {
            return symbols.size - KNOWN_SYMBOLS;
        }

        int assemble(int bytes) {
            reset();
            length = Math.min(bytes, text.length);
            int position = 0;
            for (int line = 0; line < length && position < length && fault == 0; line++) {
                position = readLine(position);
            }
            if (fault == 0) {
                settleSymbols();
            } else {
                size = 0;
                symbols.keep(KNOWN_SYMBOLS);
            }
            return fault;
        }

        private void reset() {
            Arrays.fill(storage, 0);
            symbols.keep(KNOWN_SYMBOLS);
            size = 0;
            a = 0;
            d = 0;
            next = 0;
            done = 0;
            fault = 0;
            faultPlace = NOWHERE;
        }

        private void stopAt(int place, int number) {
            if (fault == 0) {
                fault = number;
                faultPlace = place;
            }
        }

        /** Gives where the next line begins. */
        private int readLine(int position) {
            int start = skipBlanks(position);
            int end = instructionEnd(start);
            if (end > start) {
                readInstruction(start, end);
                int second = skipBlanks(end);
                if (instructionEnd(second) > second) {
                    stopAt(second, NO_SYNTAX);
                }
            }
            int lineEnd = end;
            while (lineEnd < length && text[lineEnd] != '\n') {
                lineEnd++;
            }
            return lineEnd + 1;
        }

        private static boolean isBlank(int b) {
            return b == ' ' || b == '\t' || b == '\r';
        }

        private int skipBlanks(int position) {
            int i = position;
            while (i < length && isBlank(text[i])) {
                i++;
            }
            return i;
        }

        private int instructionEnd(int start) {
            int i = start;
            while (i < length && !isBlank(text[i]) && text[i] != '\n' && !isComment(i)) {
                i++;
            }
            return i;
        }

        private boolean isComment(int i) {
            return i + 1 < length && text[i] == '/' && text[i + 1] == '/';
        }

        private void readInstruction(int start, int end) {
            if (text[start] == '@') {
                readAddress(start, end);
            } else if (text[start] == '(') {
                readLabel(start, end);
            } else {
                readComputation(start, end);
            }
        }

        private void readAddress(int start, int end) {
            int number = numberIn(start + 1, end);
            if (number >= 0) {
                addWord(start, number);
            } else if (isSymbol(start + 1, end)) {
                addWord(start, -1 - takeSymbol(start, start + 1, end));
            } else {
                stopAt(start, NO_SYNTAX);
            }
        }

        private int numberIn(int from, int to) {
            if (to <= from || to - from > 5) {
                return NONE;
            }
            int value = 0;
            for (int i = from; i < to; i++) {
                if (!isDigit(text[i])) {
                    return NONE;
                }
                value = 10 * value + text[i] - '0';
            }
            return value > LARGEST_WORD ? NONE : value;
        }

        private boolean isSymbol(int from, int to) {
            if (to <= from || to - from > Names.MOST_BYTES || isDigit(text[from])) {
                return false;
            }
            for (int i = from; i < to; i++) {
                boolean sign = text[i] == '_' || text[i] == '.' || text[i] == '$' || text[i] == ':';
                if (!sign && !isLetter(text[i]) && !isDigit(text[i])) {
                    return false;
                }
            }
            return true;
        }

        private int takeSymbol(int start, int from, int to) {
            int found = symbols.findBytes(text, from, to);
            if (found != NONE) {
                return found;
            }
            int s = symbols.size;
            if (s >= symbolValues.length) {
                stopAt(start, NO_ROOM);
                return 0;
            }
            symbols.add(Names.half(text, from, to), Names.half(text, from + Names.HALF, to));
            symbolValues[s] = UNTOLD;
            return s;
        }

        private void addWord(int start, int word) {
            if (size >= MOST_WORDS) {
                stopAt(start, NO_ROOM);
            } else {
                words[size] = word;
                size++;
            }
        }

        private void readLabel(int start, int end) {
            if (text[end - 1] != ')' || !isSymbol(start + 1, end - 1)) {
                stopAt(start, NO_SYNTAX);
                return;
            }
            int s = takeSymbol(start, start + 1, end - 1);
            if (symbolValues[s] != UNTOLD) {
                stopAt(start, LABEL_TWICE);
            } else {
                symbolValues[s] = size;
            }
        }

        private int find(int sign, int from, int to) {
            for (int i = from; i < to; i++) {
                if (text[i] == sign) {
                    return i;
                }
            }
            return NONE;
        }

        private void readComputation(int start, int end) {
            int equal = find('=', start, end);
            int semicolon = find(';', start, end);
            int dest = equal == NONE ? 0 : 1 + dests.findBytes(text, start, equal);
            int jump = semicolon == NONE ? 0 : 1 + jumps.findBytes(text, semicolon + 1, end);
            int comp = comps.findBytes(text, equal == NONE ? start : equal + 1, semicolon == NONE ? end : semicolon);
            boolean wrongDest = equal != NONE && dest == 0;
            boolean wrongJump = semicolon != NONE && jump == 0;
            if (comp == NONE || comp >= COMP_BITS.length || wrongDest || wrongJump) {
                stopAt(start, NO_SYNTAX);
            } else {
                addWord(start, COMPUTE + 64 * COMP_BITS[comp] + 8 * dest + jump);
            }
        }

        /** Only now is it known which symbols are no labels: they get their addresses as they come. */
        private void settleSymbols() {
            int variable = FIRST_VARIABLE;
            for (int i = 0; i < size; i++) {
                int s = -1 - words[i];
                if (s >= 0 && s < symbolValues.length) {
                    if (symbolValues[s] == UNTOLD) {
                        symbolValues[s] = variable;
                        variable++;
                    }
                    words[i] = symbolValues[s];
                }
            }
        }

        int execute(int most) {
            int count = 0;
            while (count < most && next >= 0 && next < size) {
                doInstruction(words[next]);
                count++;
            }
            done += count;
            return count;
        }

        private void doInstruction(int word) {
            if (word < COMPUTE) {
                a = word;
                next++;
                return;
            }
            int address = a & LOWEST_15_BITS;
            int result = compute(word >> 6, d, (word & FROM_STORE) != 0 ? storage[address] : a);
            if ((word & 8) != 0) {
                storage[address] = result;
            }
            if ((word & 16) != 0) {
                d = result;
            }
            if ((word & 32) != 0) {
                a = result;
            }
            int sign = result > 0 ? 1 : result == 0 ? 2 : 4;
            next = (word & sign) != 0 ? address : next + 1;
        }

        /** The six bits say: x is 0, x is turned, y is 0, y is turned, a sum (or and), the result is turned. */
        private static int compute(int bits, int first, int second) {
            int x = (bits & 32) != 0 ? 0 : first;
            int y = (bits & 8) != 0 ? 0 : second;
            if ((bits & 16) != 0) {
                x = ~x;
            }
            if ((bits & 4) != 0) {
                y = ~y;
            }
            int result = (bits & 2) != 0 ? x + y : x & y;
            return (short) ((bits & 1) != 0 ? ~result : result);
        }
    }

    /** Reads a text of chips for its syntax and room, and keeps where its chips, pins, parts and links stand. */
    private static final class ChipReader {
        private static final int GATES = 2;
        private static final int GATE_PINS = 5;
        private static final int MOST_CHIPS = 16;
        private static final int MOST_PINS = 12;
        private static final int MOST_PARTS = 24;
        private static final int MOST_INNER = 100;
        private static final int ALL_CHIPS = GATES + MOST_CHIPS;
        private static final int ALL_PINS = GATE_PINS + MOST_CHIPS * MOST_PINS;
        private static final int ALL_PARTS = MOST_CHIPS * MOST_PARTS;
        /** A link has at least four tokens, with its comma. */
        private static final int ALL_LINKS = MOST_CHIP_TOKENS / 4;
        private final Tokens tokens;
        private final Names chips = new Names(ALL_CHIPS, "Nand Dff");
        private final int[] chipTokens = new int[ALL_CHIPS];
        private final int[] firstPins = new int[ALL_CHIPS + 1];
        private final int[] firstOuts = new int[ALL_CHIPS];
        private final int[] firstParts = new int[ALL_CHIPS + 1];
        private final Names pins = new Names(ALL_PINS, "a b out in out");
        private final int[] pinTokens = new int[ALL_PINS];
        private final int[] partTokens = new int[ALL_PARTS];
        private final int[] firstLinks = new int[ALL_PARTS + 1];
        private final int[] lefts = new int[ALL_LINKS];
        private final int[] rights = new int[ALL_LINKS];
        private final Names inner = new Names(MOST_INNER, "");
        private int parts;
        private int links;

        ChipReader(Tokens tokens) {
            this.tokens = tokens;
            firstPins[1] = 3;
            firstPins[2] = GATE_PINS;
            firstOuts[0] = 2;
            firstOuts[1] = 4;
        }

        void read() {
            chips.keep(GATES);
            pins.keep(GATE_PINS);
            parts = 0;
            links = 0;
            tokens.rewind();
            readChip();
            for (int turn = 0; turn < MOST_CHIP_TOKENS && tokens.kind() == CHIP; turn++) {
                readChip();
            }
            tokens.expect(END);
        }

        private void readChip() {
            tokens.expect(CHIP);
            beginChip();
            if (tokens.fault != 0) {
                return;
            }
            int chip = chips.size - 1;
            tokens.expect('{');
            tokens.expect(IN);
            readPins(chip);
            firstOuts[chip] = pins.size;
            tokens.expect(OUT);
            readPins(chip);
            firstPins[chip + 1] = pins.size;
            tokens.expect(PARTS);
            tokens.expect(':');
            for (int turn = 0; turn < MOST_CHIP_TOKENS && tokens.kind() == NAME; turn++) {
                readPart(chip);
            }
            firstParts[chip + 1] = parts;
            tokens.expect('}');
        }

        private void beginChip() {
            if (tokens.kind() != NAME) {
                tokens.stop(NO_SYNTAX);
            } else if (chips.size >= ALL_CHIPS) {
                tokens.stop(NO_ROOM);
            } else {
                chipTokens[chips.size] = tokens.at;
                firstPins[chips.size] = pins.size;
                firstParts[chips.size] = parts;
                tokens.addTo(chips, tokens.at);
                inner.keep(0);
                tokens.at++;
            }
        }

        private void readPins(int chip) {
            readPin(chip);
            for (int turn = 0; turn < MOST_CHIP_TOKENS && tokens.kind() == ','; turn++) {
                tokens.at++;
                readPin(chip);
            }
            tokens.expect(';');
        }

        private void readPin(int chip) {
            if (tokens.kind() != NAME) {
                tokens.stop(NO_SYNTAX);
            } else if (pins.size - firstPins[chip] >= MOST_PINS || pins.size >= ALL_PINS) {
                tokens.stop(NO_ROOM);
            } else {
                pinTokens[pins.size] = tokens.at;
                tokens.addTo(pins, tokens.at);
                tokens.at++;
                if (tokens.kind() == '[') {
                    tokens.at++;
                    tokens.expect(NUMBER);
                    tokens.expect(']');
                }
            }
        }

        private void readPart(int chip) {
            if (parts - firstParts[chip] >= MOST_PARTS || parts >= ALL_PARTS) {
                tokens.stop(NO_ROOM);
                return;
            }
            partTokens[parts] = tokens.at;
            firstLinks[parts] = links;
            parts++;
            tokens.at++;
            tokens.expect('(');
            readLink(chip);
            for (int turn = 0; turn < MOST_CHIP_TOKENS && tokens.kind() == ','; turn++) {
                tokens.at++;
                readLink(chip);
            }
            firstLinks[parts] = links;
            tokens.expect(')');
            tokens.expect(';');
        }

        private void readLink(int chip) {
            int left = tokens.at;
            tokens.expect(NAME);
            readRange();
            tokens.expect('=');
            int right = tokens.at;
            if (tokens.kind() == NAME) {
                noteInner(chip);
                readRange();
            } else if (tokens.kind() == ALL_ONES || tokens.kind() == ALL_ZEROS) {
                tokens.at++;
            } else {
                tokens.stop(NO_SYNTAX);
            }
            if (links < ALL_LINKS) {
                lefts[links] = left;
                rights[links] = right;
                links++;
            }
        }

        private void noteInner(int chip) {
            boolean known = tokens.findIn(pins, tokens.at, firstPins[chip], ALL_PINS) != NONE
                || tokens.findIn(inner, tokens.at, 0, MOST_INNER) != NONE;
            if (!known && inner.size >= MOST_INNER) {
                tokens.stop(NO_ROOM);
                return;
            }
            if (!known) {
                tokens.addTo(inner, tokens.at);
            }
            tokens.at++;
        }

        private void readRange() {
            if (tokens.kind() != '[') {
                return;
            }
            tokens.at++;
            tokens.expect(NUMBER);
            if (tokens.kind() == '.') {
                tokens.at++;
                tokens.expect(NUMBER);
            }
            tokens.expect(']');
        }
    }

    /** Asks whether what a text of chips names is there and fits, and works out which bits its links join. */
    private static final class ChipChecker {
        private static final int MOST_WIDTH = 16;
        private static final int ZEROS = -1;
        private static final int ONES = -2;
        private final Tokens tokens;
        private final ChipReader text;
        private final int[] widths = new int[ChipReader.ALL_PINS];
        /** Of each pin its first bit among the bits of its chip. */
        private final int[] offsets = new int[ChipReader.ALL_PINS];
        /** Of each chip how many bits its pins and inner names have. */
        private final int[] ownBits = new int[ChipReader.ALL_CHIPS];
        private final int[] partChips = new int[ChipReader.ALL_PARTS];
        private final int[] linkPins = new int[ChipReader.ALL_LINKS];
        private final int[] linkLows = new int[ChipReader.ALL_LINKS];
        private final int[] linkWidths = new int[ChipReader.ALL_LINKS];
        /** Of each link's right side its first bit among the bits of the chip, or ZEROS, or ONES. */
        private final int[] linkTargets = new int[ChipReader.ALL_LINKS];
        private final Names inner = new Names(ChipReader.MOST_INNER, "");
        /** NONE where it is not asked. */
        private final int[] innerWidths = new int[ChipReader.MOST_INNER];
        private final int[] innerOffsets = new int[ChipReader.MOST_INNER];
        private final int[] innerLinks = new int[ChipReader.MOST_INNER];
        private final int[] linkedIns = new int[ChipReader.MOST_PINS];
        private final int[] linkedOuts = new int[ChipReader.MOST_PINS];
        /** Of each chip, as bits, the chips that are in it at any depth. */
        private final int[] within = new int[ChipReader.ALL_CHIPS];

        ChipChecker(Tokens tokens, ChipReader text) {
            this.tokens = tokens;
            this.text = text;
            for (int pin = 0; pin < ChipReader.GATE_PINS; pin++) {
                widths[pin] = 1;
                offsets[pin] = pin - (pin < 3 ? 0 : 3);
            }
            ownBits[0] = 3;
            ownBits[1] = 2;
        }

        void check() {
            for (int chip = ChipReader.GATES; chip < text.chips.size; chip++) {
                if (tokens.findIn(text.chips, text.chipTokens[chip], 0, chip) != NONE) {
                    tokens.blame(TWICE, text.chipTokens[chip]);
                }
                checkPins(chip);
            }
            for (int chip = ChipReader.GATES; chip < text.chips.size; chip++) {
                findParts(chip);
                gatherInner(chip);
                checkParts(chip);
            }
            if (tokens.fault == 0) {
                findRings();
            }
        }

        private void checkPins(int chip) {
            int bits = 0;
            int first = text.firstPins[chip];
            for (int pin = first; pin < text.firstPins[chip + 1]; pin++) {
                int token = text.pinTokens[pin];
                if (tokens.findIn(text.pins, token, first, pin) != NONE) {
                    tokens.blame(TWICE, token);
                }
                widths[pin] = 1;
                if (tokens.kindOf(token + 1) == '[') {
                    widths[pin] = tokens.valueOf(token + 2);
                }
                if (widths[pin] < 1 || widths[pin] > MOST_WIDTH) {
                    tokens.blame(WRONG_WIDTH, token + 2);
                    widths[pin] = 1;
                }
                offsets[pin] = bits;
                bits += widths[pin];
            }
            ownBits[chip] = bits;
        }

        private void findParts(int chip) {
            for (int part = text.firstParts[chip]; part < text.firstParts[chip + 1]; part++) {
                partChips[part] = tokens.findIn(text.chips, text.partTokens[part], 0, ChipReader.ALL_CHIPS);
                if (partChips[part] == NONE) {
                    tokens.blame(NO_SUCH_NAME, text.partTokens[part]);
                }
            }
        }

        private int findPin(int chip, int token) {
            return tokens.findIn(text.pins, token, text.firstPins[chip], text.firstPins[chip + 1]);
        }

        private boolean isOut(int chip, int pin) {
            return pin >= text.firstOuts[chip];
        }

        /** All inner names are found ahead of the links, since they may be used ahead of where they are linked. */
        private void gatherInner(int chip) {
            inner.keep(0);
            for (int part = text.firstParts[chip]; part < text.firstParts[chip + 1]; part++) {
                for (int link = text.firstLinks[part]; link < text.firstLinks[part + 1]; link++) {
                    if (partChips[part] != NONE) {
                        gatherFrom(chip, partChips[part], link);
                    }
                }
            }
        }

        private void gatherFrom(int chip, int partChip, int link) {
            int pin = findPin(partChip, text.lefts[link]);
            int right = text.rights[link];
            boolean gives = pin != NONE && isOut(partChip, pin) && tokens.kindOf(right) == NAME;
            int i = inner.size;
            if (!gives || i >= ChipReader.MOST_INNER || findPin(chip, right) != NONE || findInner(right) != NONE) {
                return;
            }
            int left = text.lefts[link];
            tokens.addTo(inner, right);
            innerLinks[i] = link;
            innerOffsets[i] = ownBits[chip];
            innerWidths[i] = rangeWidth(lowBit(left), highBit(left, widths[pin]), widths[pin]);
            ownBits[chip] += Math.max(0, innerWidths[i]);
        }

        private int findInner(int token) {
            return tokens.findIn(inner, token, 0, ChipReader.MOST_INNER);
        }

        private int lowBit(int token) {
            return tokens.kindOf(token + 1) == '[' ? tokens.valueOf(token + 2) : 0;
        }

        private int highBit(int token, int width) {
            if (tokens.kindOf(token + 1) != '[') {
                return width - 1;
            }
            return tokens.valueOf(tokens.kindOf(token + 3) == '.' ? token + 4 : token + 2);
        }

        /** How many bits a range has; NONE if it is faulty. */
        private static int rangeWidth(int low, int high, int width) {
            return low <= high && high < width ? high - low + 1 : NONE;
        }

        private static int rangeMask(int low, int width) {
            return (1 << width) - 1 << low;
        }

        private void checkParts(int chip) {
            Arrays.fill(linkedOuts, 0);
            for (int part = text.firstParts[chip]; part < text.firstParts[chip + 1]; part++) {
                Arrays.fill(linkedIns, 0);
                for (int link = text.firstLinks[part]; link < text.firstLinks[part + 1]; link++) {
                    if (partChips[part] != NONE) {
                        checkLeft(chip, partChips[part], link);
                    }
                }
            }
        }

        private void checkLeft(int chip, int partChip, int link) {
            int left = text.lefts[link];
            int pin = findPin(partChip, left);
            if (pin == NONE) {
                tokens.blame(NO_SUCH_NAME, left);
                return;
            }
            int low = lowBit(left);
            int width = rangeWidth(low, highBit(left, widths[pin]), widths[pin]);
            boolean out = isOut(partChip, pin);
            linkPins[link] = pin;
            linkLows[link] = low;
            linkWidths[link] = width;
            if (width == NONE) {
                tokens.blame(WRONG_WIDTH, left + 1);
            } else if (!out && isLinked(linkedIns, pin - text.firstPins[partChip], rangeMask(low, width))) {
                tokens.blame(TWICE, left);
            }
            checkRight(chip, link, out);
        }

        /** Notes that these bits are linked, and tells whether one of them was. */
        private static boolean isLinked(int[] linked, int pin, int mask) {
            if (pin < 0 || pin >= linked.length) {
                return false;
            }
            boolean before = (linked[pin] & mask) != 0;
            linked[pin] |= mask;
            return before;
        }

        private void checkRight(int chip, int link, boolean out) {
            int right = text.rights[link];
            if (tokens.kindOf(right) != NAME) {
                linkTargets[link] = tokens.kindOf(right) == ALL_ONES ? ONES : ZEROS;
                if (out) {
                    tokens.blame(NO_SUCH_NAME, right);
                }
                return;
            }
            int pin = findPin(chip, right);
            if (pin == NONE) {
                checkInner(link, out);
            } else if (isOut(chip, pin) != out) {
                tokens.blame(NO_SUCH_NAME, right);
            } else {
                checkOwnPin(chip, link, pin);
            }
        }

        private void checkInner(int link, boolean out) {
            int right = text.rights[link];
            int i = findInner(right);
            if (i == NONE) {
                tokens.blame(NO_SUCH_NAME, right);
                return;
            }
            linkTargets[link] = innerOffsets[i];
            if (out && innerLinks[i] != link) {
                tokens.blame(TWICE, right);
            }
            if (tokens.kindOf(right + 1) == '[') {
                tokens.blame(WRONG_WIDTH, right + 1);
            } else if (!out) {
                compareWidths(link, innerWidths[i]);
            }
        }

        private void checkOwnPin(int chip, int link, int pin) {
            int right = text.rights[link];
            int low = lowBit(right);
            int width = rangeWidth(low, highBit(right, widths[pin]), widths[pin]);
            linkTargets[link] = offsets[pin] + low;
            if (width == NONE) {
                tokens.blame(WRONG_WIDTH, right + 1);
                return;
            }
            int index = pin - text.firstPins[chip];
            if (isOut(chip, pin) && isLinked(linkedOuts, index, rangeMask(low, width))) {
                tokens.blame(TWICE, right);
            }
            compareWidths(link, width);
        }

        private void compareWidths(int link, int width) {
            if (width != NONE && linkWidths[link] != NONE && width != linkWidths[link]) {
                tokens.blame(WRONG_WIDTH, text.rights[link]);
            }
        }

        private void findRings() {
            int count = text.chips.size;
            for (int chip = 0; chip < count; chip++) {
                within[chip] = 0;
                for (int part = text.firstParts[chip]; part < text.firstParts[chip + 1]; part++) {
                    within[chip] |= 1 << partChips[part];
                }
            }
            for (int middle = 0; middle < count; middle++) {
                for (int chip = 0; chip < count; chip++) {
                    if ((within[chip] >> middle & 1) != 0) {
                        within[chip] |= within[middle];
                    }
                }
            }
            for (int chip = 0; chip < count; chip++) {
                if ((within[chip] >> chip & 1) != 0) {
                    tokens.blame(RING, text.chipTokens[chip]);
                }
            }
        }
    }

    /** The gates of the text's last chip, each input of a gate led back to the gate or pin that gives it. */
    private static final class Board {
        private static final int NAND = 0;
        private static final int MOST_GATES = 1500;
        private static final int MOST_BITS = 40000;
        private static final int TOO_MANY = 1000000;
        private static final int PIN_SIGNALS = ChipReader.MOST_PINS * ChipChecker.MOST_WIDTH;
        // Signals: what is always 0, what is always 1, the bits of IN pins, and what each gate gives.
        private static final int ONE = 1;
        private static final int FIRST_IN = 2;
        private static final int FIRST_GATE = FIRST_IN + PIN_SIGNALS;
        private final ChipReader text;
        private final ChipChecker plan;
        private final int[] gateCounts = new int[ChipReader.ALL_CHIPS];
        private final int[] bitCounts = new int[ChipReader.ALL_CHIPS];
        /** Of each bit the bit that gives it, or -1 - s if signal s does. */
        private final int[] sources = new int[MOST_BITS];
        private final int[] signals = new int[FIRST_GATE + MOST_GATES];
        private final int[] firstInputs = new int[MOST_GATES];
        /** NONE of a Dff. */
        private final int[] secondInputs = new int[MOST_GATES];
        private final int[] outSignals = new int[PIN_SIGNALS];
        /** The Nands, each behind those that it gets something from. */
        private final int[] order = new int[MOST_GATES];
        private final int[] levels = new int[MOST_GATES];
        private final int[] awaited = new int[MOST_GATES];
        private final int[] firstUses = new int[MOST_GATES];
        private final int[] nextUses = new int[2 * MOST_GATES];
        private int gateCount;
        private int usedBits;
        private int nands;
        private int ticks;
        private boolean present;

        Board(ChipReader text, ChipChecker plan) {
            this.text = text;
            this.plan = plan;
        }

        void remove() {
            present = false;
        }

        /** False if the last chip has too many gates or bits, or a ring of Nands. */
        boolean build() {
            countGatesAndBits();
            int board = lastChip();
            if (gateCounts[board] > MOST_GATES || bitCounts[board] > MOST_BITS) {
                return false;
            }
            wire(board);
            present = sortNands();
            Arrays.fill(signals, 0);
            signals[ONE] = 1;
            ticks = 0;
            settle();
            return present;
        }

        private int lastChip() {
            return text.chips.size - 1;
        }

        private int inPins() {
            return text.firstOuts[lastChip()] - text.firstPins[lastChip()];
        }

        private int outPins() {
            return text.firstPins[lastChip() + 1] - text.firstOuts[lastChip()];
        }

        /** Each round is right for chips one level higher, and there are at most as many levels as chips. */
        private void countGatesAndBits() {
            Arrays.fill(gateCounts, 0);
            Arrays.fill(bitCounts, 0);
            for (int round = 0; round <= ChipReader.MOST_CHIPS; round++) {
                for (int chip = 0; chip < text.chips.size; chip++) {
                    int gates = chip < ChipReader.GATES ? 1 : 0;
                    int bits = plan.ownBits[chip];
                    for (int part = text.firstParts[chip]; part < text.firstParts[chip + 1]; part++) {
                        gates += gateCounts[plan.partChips[part]];
                        bits += bitCounts[plan.partChips[part]];
                    }
                    gateCounts[chip] = Math.min(gates, TOO_MANY);
                    bitCounts[chip] = Math.min(bits, TOO_MANY);
                }
            }
        }

        private void wire(int board) {
            Arrays.fill(sources, -1);
            gateCount = 0;
            usedBits = plan.ownBits[board];
            int outs = text.firstOuts[board];
            for (int pin = text.firstPins[board]; pin < outs; pin++) {
                for (int bit = 0; bit < plan.widths[pin]; bit++) {
                    give(plan.offsets[pin] + bit, FIRST_IN + slotOf(pin - text.firstPins[board], bit));
                }
            }
            putParts(board, 0, 0);
            for (int gate = 0; gate < gateCount; gate++) {
                firstInputs[gate] = traceBack(firstInputs[gate]);
                secondInputs[gate] = secondInputs[gate] == NONE ? NONE : traceBack(secondInputs[gate]);
            }
            for (int pin = outs; pin < text.firstPins[board + 1]; pin++) {
                for (int bit = 0; bit < plan.widths[pin]; bit++) {
                    outSignals[slotOf(pin - outs, bit)] = traceBack(plan.offsets[pin] + bit);
                }
            }
        }

        private static int slotOf(int k, int bit) {
            return ChipChecker.MOST_WIDTH * k + bit;
        }

        private void give(int bit, int signal) {
            join(bit, -1 - signal);
        }

        private void join(int bit, int giver) {
            if (bit >= 0 && bit < MOST_BITS) {
                sources[bit] = giver;
            }
        }

        /** The signal that a bit gets; one that is linked with nothing gets signal 0. */
        private int traceBack(int start) {
            int bit = start;
            for (int turn = 0; turn < MOST_BITS && bit >= 0 && bit < MOST_BITS; turn++) {
                bit = sources[bit];
            }
            return bit < 0 ? -1 - bit : 0;
        }

        /** No chip is within itself, so that the depth stays below the number of chips. */
        private void putParts(int chip, int base, int depth) {
            if (depth >= ChipReader.MOST_CHIPS) {
                return;
            }
            for (int part = text.firstParts[chip]; part < text.firstParts[chip + 1]; part++) {
                int partChip = plan.partChips[part];
                int partBase = usedBits;
                usedBits += plan.ownBits[partChip];
                for (int link = text.firstLinks[part]; link < text.firstLinks[part + 1]; link++) {
                    joinLink(link, plan.isOut(partChip, plan.linkPins[link]), base, partBase);
                }
                if (partChip < ChipReader.GATES) {
                    addGate(partChip, partBase);
                } else {
                    putParts(partChip, partBase, depth + 1);
                }
            }
        }

        private void joinLink(int link, boolean out, int base, int partBase) {
            int left = partBase + plan.offsets[plan.linkPins[link]] + plan.linkLows[link];
            int target = plan.linkTargets[link];
            for (int bit = 0; bit < plan.linkWidths[link]; bit++) {
                if (target == ChipChecker.ZEROS || target == ChipChecker.ONES) {
                    give(left + bit, target == ChipChecker.ONES ? ONE : 0);
                } else if (out) {
                    join(base + target + bit, left + bit);
                } else {
                    join(left + bit, base + target + bit);
                }
            }
        }

        private void addGate(int kind, int base) {
            if (gateCount < MOST_GATES) {
                firstInputs[gateCount] = base;
                secondInputs[gateCount] = kind == NAND ? base + 1 : NONE;
                give(kind == NAND ? base + 2 : base + 1, FIRST_GATE + gateCount);
                gateCount++;
            }
        }

        private boolean isNand(int gate) {
            return gate >= 0 && gate < gateCount && secondInputs[gate] != NONE;
        }

        /** A Nand comes in when all Nands that it gets something from are in; false if some never do. */
        private boolean sortNands() {
            Arrays.fill(firstUses, NONE);
            int all = 0;
            nands = 0;
            for (int gate = 0; gate < gateCount; gate++) {
                levels[gate] = 1;
                if (isNand(gate)) {
                    all++;
                    awaited[gate] = noteUse(2 * gate, firstInputs[gate]) + noteUse(2 * gate + 1, secondInputs[gate]);
                    if (awaited[gate] == 0) {
                        bringIn(gate);
                    }
                }
            }
            for (int i = 0; i < MOST_GATES && i < nands; i++) {
                releaseUsers(order[i]);
            }
            return nands == all;
        }

        /** Gives 1 if the signal comes from a Nand, so that it must be awaited. */
        private int noteUse(int use, int signal) {
            int giver = signal - FIRST_GATE;
            if (!isNand(giver)) {
                return 0;
            }
            nextUses[use] = firstUses[giver];
            firstUses[giver] = use;
            return 1;
        }

        private void bringIn(int gate) {
            if (nands < MOST_GATES) {
                order[nands] = gate;
                nands++;
            }
        }

        private void releaseUsers(int giver) {
            int use = firstUses[giver];
            for (int turn = 0; turn < 2 * MOST_GATES && use != NONE; turn++) {
                int user = use / 2;
                levels[user] = Math.max(levels[user], levels[giver] + 1);
                awaited[user]--;
                if (awaited[user] == 0) {
                    bringIn(user);
                }
                use = nextUses[use];
            }
        }

        private void settle() {
            for (int i = 0; i < nands; i++) {
                int gate = order[i];
                signals[FIRST_GATE + gate] = 1 - (signals[firstInputs[gate]] & signals[secondInputs[gate]]);
            }
        }

        boolean driveInput(int k, int v) {
            if (!present || k < 0 || k >= inPins()) {
                return false;
            }
            int width = plan.widths[text.firstPins[lastChip()] + k];
            for (int bit = 0; bit < width; bit++) {
                signals[FIRST_IN + slotOf(k, bit)] = v >> bit & 1;
            }
            settle();
            return true;
        }

        int readOutput(int k) {
            if (!present || k < 0 || k >= outPins()) {
                return -1;
            }
            int value = 0;
            int width = plan.widths[text.firstOuts[lastChip()] + k];
            for (int bit = 0; bit < width; bit++) {
                value |= signals[outSignals[slotOf(k, bit)]] << bit;
            }
            return value;
        }

        /** All bits are taken before the first one is given on, so that the Dffs change together. */
        int clock() {
            if (!present) {
                return -1;
            }
            for (int gate = 0; gate < gateCount; gate++) {
                awaited[gate] = signals[firstInputs[gate]];
            }
            int changed = 0;
            for (int gate = 0; gate < gateCount; gate++) {
                if (!isNand(gate) && signals[FIRST_GATE + gate] != awaited[gate]) {
                    signals[FIRST_GATE + gate] = awaited[gate];
                    changed++;
                }
            }
            ticks++;
            settle();
            return changed;
        }

        int measure(int what) {
            if (!present) {
                return -1;
            }
            switch (what) {
                case 0:
                    return nands;
                case 1:
                    return gateCount - nands;
                case 2:
                    return inPins();
                case 3:
                    return outPins();
                case 4:
                    return text.chips.size - ChipReader.GATES;
                case 5:
                    return longestChain();
                case 6:
                    return ticks;
                case 7:
                    return givingOne();
                default:
                    return -1;
            }
        }

        private int longestChain() {
            int longest = 0;
            for (int i = 0; i < nands; i++) {
                longest = Math.max(longest, levels[order[i]]);
            }
            return longest;
        }

        private int givingOne() {
            int ones = 0;
            for (int i = 0; i < nands; i++) {
                ones += signals[FIRST_GATE + order[i]];
            }
            return ones;
        }
    }
}
