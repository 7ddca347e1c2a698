import java.util.Arrays;

/**
 * A house for a small language of classes: a text is fed as bytes, read, checked and
 * turned into code, which a machine with a pile runs step by step.
 */
public final class ClassHouse {
    private static final int TAPE_LIMIT = 3000;
    private static final int FEED_BYTES = 20;
    private static final int FIRST_HEAP = 1000;
    private static final int LEAST_HEAP = 10;
    private static final int MOST_HEAP = 10000;
    private static final int STEP_LIMIT = 20000;
    private static final int BAD_BASE = -10000;

    private final int[] tape;
    private final Words words;
    private final Classes classes;
    private final Reader reader;
    private final Checker checker;
    private final Typer typer;
    private final Input numbers;
    private final Machine machine;
    private int tapeSize;
    private int heapSize;
    private boolean ready;

    public ClassHouse() {
        tape = new int[TAPE_LIMIT];
        words = new Words();
        classes = new Classes();
        Members members = new Members(classes);
        Code code = new Code();
        reader = new Reader(words, classes, members, code);
        checker = new Checker(classes, members);
        typer = new Typer(classes, members, code);
        numbers = new Input();
        machine = new Machine(classes, members, code, numbers);
        tapeSize = 0;
        heapSize = FIRST_HEAP;
        ready = false;
    }

    public int feed(int a, int b, int c, int d, int e) {
        if (tapeSize > TAPE_LIMIT - FEED_BYTES) {
            return -1;
        }
        putFour(a);
        putFour(b);
        putFour(c);
        putFour(d);
        putFour(e);
        return tapeSize;
    }

    private void putFour(int four) {
        for (int shift = 24; shift >= 0 && tapeSize < TAPE_LIMIT; shift -= 8) {
            tape[tapeSize] = (four >>> shift) & 255;
            tapeSize++;
        }
    }

    public int end(int n) {
        if (n < 0 || n > tapeSize) {
            return -1;
        }
        tapeSize = n;
        return n;
    }

    public int program() {
        int length = tapeSize;
        tapeSize = 0;
        ready = false;
        machine.forget();
        words.split(tape, length);
        int wrong = reader.read();
        if (wrong >= 0) {
            return -1 - wrong;
        }
        int bad = checker.check(length);
        if (bad < 0) {
            bad = typer.check();
        }
        if (bad >= 0) {
            return BAD_BASE - bad;
        }
        ready = true;
        return classes.told();
    }

    public int heap(int n) {
        if (n < LEAST_HEAP || n > MOST_HEAP) {
            return -1;
        }
        heapSize = n;
        return 1;
    }

    public int input(int a, int b, int c) {
        return numbers.addThree(a, b, c);
    }

    public int start() {
        if (!ready) {
            return 0;
        }
        machine.begin(heapSize);
        return 1;
    }

    public int step(int n) {
        if (n < 0 || n > STEP_LIMIT) {
            return -1;
        }
        return machine.run(n);
    }

    public int result() {
        return machine.answer;
    }

    public int output(int i) {
        return machine.printedAt(i);
    }

    public int count(int what) {
        switch (what) {
            case 0:
                return machine.steps;
            case 1:
                return machine.made;
            case 2:
                return machine.cellsReached();
            case 3:
                return machine.methodsOpen();
            case 4:
                return machine.printed;
            case 5:
                return machine.thrown;
            case 6:
                return numbers.size;
            case 7:
                return tapeSize;
            default:
                return -1;
        }
    }

    /** The numbers that programs are yet to read, in a ring. */
    private static final class Input {
        private static final int LIMIT = 300;

        private final int[] ring;
        private int first;
        private int size;

        Input() {
            ring = new int[LIMIT];
            first = 0;
            size = 0;
        }

        int addThree(int a, int b, int c) {
            if (size > LIMIT - 3) {
                return -1;
            }
            add(a);
            add(b);
            add(c);
            return size;
        }

        private void add(int value) {
            ring[(first + size) % LIMIT] = value;
            size++;
        }

        int next() {
            if (size == 0) {
                return 0;
            }
            int value = ring[first];
            first = (first + 1) % LIMIT;
            size--;
            return value;
        }
    }

    /** The words of a text: what each is, where it begins, and which name or number it tells. */
    private static final class Words {
        static final int END = 0;
        static final int CLASS = 1;
        static final int INT = 2;
        static final int BOOL = 3;
        static final int INTS = 4;
        static final int VOID = 5;
        static final int IF = 6;
        static final int ELSE = 7;
        static final int WHILE = 8;
        static final int RETURN = 9;
        static final int THROW = 10;
        static final int TRY = 11;
        static final int CATCH = 12;
        static final int PRINT = 13;
        static final int NEW = 14;
        static final int NULL = 15;
        static final int TRUE = 16;
        static final int FALSE = 17;
        static final int THIS = 18;
        static final int READ = 19;
        static final int AS = 20;
        static final int IS = 21;
        static final int NAME = 22;
        static final int NUMBER = 23;
        static final int WRONG = 24;
        // A sign of one byte is told by that byte, the longer ones by these.
        static final int SAME = 128;
        static final int OTHER = 129;
        static final int AT_MOST = 130;
        static final int BOTH = 131;
        static final int EITHER = 132;

        static final int NAME_NULL = 21;
        static final int NAME_MAIN_CLASS = 26;
        static final int NAME_MAIN = 27;
        static final int NAME_SIZE = 28;
        static final int LIMIT = 3100;

        // In the order of the words 1 to 21, then of the names 21 to 28.
        private static final String FIXED = "class int bool ints void if else while return throw try catch print new null true false this read as is Null Bounds Zero Cast Size Main main size ";
        private static final String SIGNS = "{}()[];,.:=<+-*/%!";
        private static final int KEPT = 21;
        private static final int MOST_DIGITS = 9;
        private static final int HEADS = 256;

        private final int[] kinds;
        private final int[] values;
        private final int[] places;
        private int size;
        private final int[] letters;
        private int lettersUsed;
        private final int[] nameFrom;
        private final int[] nameTo;
        private final int[] nameNext;
        private final int[] nameHeads;
        private int names;

        Words() {
            kinds = new int[LIMIT];
            values = new int[LIMIT];
            places = new int[LIMIT];
            letters = new int[LIMIT + FIXED.length()];
            nameFrom = new int[LIMIT];
            nameTo = new int[LIMIT];
            nameNext = new int[LIMIT];
            nameHeads = new int[HEADS];
        }

        void split(int[] tape, int length) {
            size = 0;
            nameFixedWords();
            int at = 0;
            for (int guard = 0; guard < LIMIT && at < length; guard++) {
                at = takeWord(tape, length, at);
            }
            addWord(END, 0, length);
        }

        private void nameFixedWords() {
            names = 0;
            lettersUsed = 0;
            Arrays.fill(nameHeads, -1);
            int from = 0;
            for (int i = 0; i < FIXED.length(); i++) {
                char c = FIXED.charAt(i);
                if (c == ' ') {
                    nameOfLetters(from);
                    from = lettersUsed;
                } else {
                    addLetter(c);
                }
            }
        }

        private void addWord(int kind, int value, int place) {
            if (size < LIMIT) {
                kinds[size] = kind;
                values[size] = value;
                places[size] = place;
                size++;
            }
        }

        /** Answers where the next word may begin; behind a wrong one no more are wanted. */
        private int takeWord(int[] tape, int length, int at) {
            int c = tape[at];
            if (c == ' ' || c == 10) {
                return at + 1;
            }
            if (isLetter(c)) {
                return takeName(tape, length, at);
            }
            if (isDigit(c)) {
                return takeNumber(tape, length, at);
            }
            int two = at + 1 < length ? signOfTwo(c, tape[at + 1]) : WRONG;
            if (two != WRONG) {
                addWord(two, 0, at);
                return at + 2;
            }
            if (SIGNS.indexOf((char) c) >= 0) {
                addWord(c, 0, at);
                return at + 1;
            }
            addWord(WRONG, 0, at);
            return length;
        }

        private static boolean isLetter(int c) {
            return c >= 'a' && c <= 'z' || c >= 'A' && c <= 'Z';
        }

        private static boolean isDigit(int c) {
            return c >= '0' && c <= '9';
        }

        private static int signOfTwo(int c, int d) {
            if (d == '=') {
                return c == '=' ? SAME : c == '!' ? OTHER : c == '<' ? AT_MOST : WRONG;
            }
            if (c == d) {
                return c == '&' ? BOTH : c == '|' ? EITHER : WRONG;
            }
            return WRONG;
        }

        private int takeName(int[] tape, int length, int at) {
            int from = lettersUsed;
            int to = at;
            while (to < length && (isLetter(tape[to]) || isDigit(tape[to]))) {
                addLetter(tape[to]);
                to++;
            }
            int name = nameOfLetters(from);
            if (name < KEPT) {
                addWord(name + 1, 0, at);
            } else {
                addWord(NAME, name, at);
            }
            return to;
        }

        private int takeNumber(int[] tape, int length, int at) {
            int value = 0;
            int to = at;
            while (to < length && isDigit(tape[to])) {
                value = value * 10 + (tape[to] - '0');
                to++;
            }
            if (to - at > MOST_DIGITS) {
                addWord(WRONG, 0, at);
                return length;
            }
            addWord(NUMBER, value, at);
            return to;
        }

        private void addLetter(int c) {
            if (lettersUsed < letters.length) {
                letters[lettersUsed] = c;
                lettersUsed++;
            }
        }

        /** The number of the name whose letters were added last; a known one's are taken back. */
        private int nameOfLetters(int from) {
            int head = 0;
            for (int i = from; i < lettersUsed; i++) {
                head = (head * 31 + letters[i]) & (HEADS - 1);
            }
            int name = nameHeads[head];
            for (int guard = 0; guard < LIMIT && name >= 0; guard++) {
                if (hasLetters(name, from)) {
                    lettersUsed = from;
                    return name;
                }
                name = nameNext[name];
            }
            if (names >= LIMIT) {
                return NAME_NULL;
            }
            nameFrom[names] = from;
            nameTo[names] = lettersUsed;
            nameNext[names] = nameHeads[head];
            nameHeads[head] = names;
            names++;
            return names - 1;
        }

        private boolean hasLetters(int name, int from) {
            int length = nameTo[name] - nameFrom[name];
            if (length != lettersUsed - from) {
                return false;
            }
            for (int i = 0; i < length; i++) {
                if (letters[nameFrom[name] + i] != letters[from + i]) {
                    return false;
                }
            }
            return true;
        }
    }

    /** The types, and the classes with their parents. A class is a type by its own number. */
    private static final class Classes {
        static final int INT = -1;
        static final int BOOL = -2;
        static final int INTS = -3;
        static final int VOID = -4;
        static final int NULL = -5;
        static final int UNKNOWN = -6;
        static final int NONE = -1;
        static final int BUILT_IN = 5;
        static final int LIMIT = 400;

        private final int[] name;
        private final int[] place;
        private final int[] parentName;
        private final int[] parent;
        private final int[] from;
        private final int[] to;
        private final int[] fields;
        private int size;

        Classes() {
            name = new int[LIMIT];
            place = new int[LIMIT];
            parentName = new int[LIMIT];
            parent = new int[LIMIT];
            from = new int[LIMIT];
            to = new int[LIMIT];
            fields = new int[LIMIT];
            size = 0;
        }

        void clear() {
            size = 0;
            for (int c = 0; c < BUILT_IN; c++) {
                add(Words.NAME_NULL + c, 0, NONE, 0);
            }
        }

        void add(int itsName, int itsPlace, int itsParentName, int firstMember) {
            if (size < LIMIT) {
                name[size] = itsName;
                place[size] = itsPlace;
                parentName[size] = itsParentName;
                parent[size] = NONE;
                from[size] = firstMember;
                to[size] = firstMember;
                fields[size] = 0;
                size++;
            }
        }

        void closeLast(int members) {
            if (size > 0) {
                to[size - 1] = members;
            }
        }

        int told() {
            return size - BUILT_IN;
        }

        /** The first class of the name, or UNKNOWN. */
        int find(int itsName) {
            for (int c = 0; c < size; c++) {
                if (name[c] == itsName) {
                    return c;
                }
            }
            return UNKNOWN;
        }

        int parentOf(int c) {
            return c >= 0 && c < size ? parent[c] : NONE;
        }

        boolean isSub(int type, int of) {
            if (type == of) {
                return true;
            }
            if (type == NULL) {
                return of >= 0 || of == INTS;
            }
            int c = type;
            for (int guard = 0; guard < size && c >= 0; guard++) {
                if (c == of) {
                    return true;
                }
                c = parentOf(c);
            }
            return false;
        }
    }

    /** The fields and methods of all classes in the order of the text, and the parameters. */
    private static final class Members {
        static final int LIMIT = 1000;

        private final Classes classes;
        private final int[] name;
        private final int[] place;
        private final int[] type;
        private final boolean[] method;
        private final int[] offset;
        private final int[] firstParameter;
        private final int[] parameters;
        private final int[] codeFrom;
        private final int[] slots;
        private final int[] depth;
        private int size;
        private final int[] parameterName;
        private final int[] parameterType;
        private int parametersUsed;

        Members(Classes allClasses) {
            classes = allClasses;
            name = new int[LIMIT];
            place = new int[LIMIT];
            type = new int[LIMIT];
            method = new boolean[LIMIT];
            offset = new int[LIMIT];
            firstParameter = new int[LIMIT];
            parameters = new int[LIMIT];
            codeFrom = new int[LIMIT];
            slots = new int[LIMIT];
            depth = new int[LIMIT];
            parameterName = new int[LIMIT];
            parameterType = new int[LIMIT];
        }

        void clear() {
            size = 0;
            parametersUsed = 0;
        }

        /** Adds a field, or a method that has no parameters and no code yet. */
        void add(int itsName, int itsPlace, int itsType, boolean isMethod) {
            if (size < LIMIT) {
                name[size] = itsName;
                place[size] = itsPlace;
                type[size] = itsType;
                method[size] = isMethod;
                offset[size] = 0;
                firstParameter[size] = parametersUsed;
                parameters[size] = 0;
                codeFrom[size] = 0;
                slots[size] = 0;
                depth[size] = 0;
                size++;
            }
        }

        void addParameter(int itsType, int itsName) {
            if (size > 0 && parametersUsed < LIMIT) {
                parameterName[parametersUsed] = itsName;
                parameterType[parametersUsed] = itsType;
                parametersUsed++;
                parameters[size - 1]++;
            }
        }

        void codeOfLast(int at) {
            if (size > 0) {
                codeFrom[size - 1] = at;
            }
        }

        int parameterNameOf(int m, int i) {
            int at = firstParameter[m] + i;
            return at < parametersUsed ? parameterName[at] : Classes.NONE;
        }

        int parameterTypeOf(int m, int i) {
            int at = firstParameter[m] + i;
            return at < parametersUsed ? parameterType[at] : Classes.UNKNOWN;
        }

        /** Names of classes become classes, once all of them are known. */
        void resolveTypes() {
            for (int m = 0; m < size; m++) {
                type[m] = resolved(type[m]);
            }
            for (int p = 0; p < parametersUsed; p++) {
                parameterType[p] = resolved(parameterType[p]);
            }
        }

        private int resolved(int told) {
            return told >= 0 ? classes.find(told) : told;
        }

        /** A member of this kind and name among those from .. to - 1, or NONE. */
        int among(int from, int to, boolean isMethod, int itsName) {
            for (int m = from; m < to; m++) {
                if (method[m] == isMethod && name[m] == itsName) {
                    return m;
                }
            }
            return Classes.NONE;
        }

        /** The member of this kind and name that the class has, or NONE. */
        int had(int ofClass, boolean isMethod, int itsName) {
            int c = ofClass;
            for (int guard = 0; guard < classes.size && c >= 0 && c < classes.size; guard++) {
                int m = among(classes.from[c], classes.to[c], isMethod, itsName);
                if (m != Classes.NONE) {
                    return m;
                }
                c = classes.parent[c];
            }
            return Classes.NONE;
        }

        /** An object holds the fields of its class' parents first, so that each keeps its offset. */
        void layOutFields() {
            for (int c = 0; c < classes.size; c++) {
                int used = fieldsAbove(c);
                for (int m = classes.from[c]; m < classes.to[c]; m++) {
                    if (!method[m]) {
                        offset[m] = used;
                        used++;
                    }
                }
                classes.fields[c] = used;
            }
        }

        private int ownFields(int c) {
            int own = 0;
            for (int m = classes.from[c]; m < classes.to[c]; m++) {
                if (!method[m]) {
                    own++;
                }
            }
            return own;
        }

        private int fieldsAbove(int c) {
            int above = 0;
            int at = classes.parentOf(c);
            for (int guard = 0; guard < classes.size && at >= 0; guard++) {
                above += ownFields(at);
                at = classes.parentOf(at);
            }
            return above;
        }
    }

    /**
     * The code of all methods. The reader tells names; the checker puts in their stead where
     * the machine finds what they mean.
     */
    private static final class Code {
        static final int NUMBER = 1;
        static final int TRUTH = 2;
        static final int NOTHING = 3;
        static final int THIS = 4;
        static final int READ = 5;
        static final int NAME = 6;
        static final int VARIABLE = 7;
        static final int OWN = 8;
        static final int DOT = 9;
        static final int FIELD = 10;
        static final int LENGTH = 11;
        static final int ELEMENT = 12;
        static final int NEW = 13;
        static final int ROW = 14;
        static final int AS = 15;
        static final int IS = 16;
        static final int MINUS = 17;
        static final int NOT = 18;
        static final int MULTIPLY = 19;
        static final int DIVIDE = 20;
        static final int REMAINDER = 21;
        static final int ADD = 22;
        static final int SUBTRACT = 23;
        static final int LESS = 24;
        static final int AT_MOST = 25;
        static final int SAME = 26;
        static final int OTHER = 27;
        static final int AND = 28;
        static final int OR = 29;
        static final int CALL = 30;
        static final int GIVE_NAME = 31;
        static final int GIVE_VARIABLE = 32;
        static final int GIVE_OWN = 33;
        static final int GIVE_DOT = 34;
        static final int GIVE_FIELD = 35;
        static final int GIVE_ELEMENT = 36;
        static final int TELL_GIVEN = 37;
        static final int IF = 38;
        static final int WHILE = 39;
        static final int RETURN = 40;
        static final int RETURN_VALUE = 41;
        static final int THROW = 42;
        static final int PRINT = 43;
        // From here on none is a STEP.
        static final int SELF = 50;
        static final int JOINED = 51;
        static final int DROP = 52;
        static final int TELL = 53;
        static final int ELSE = 54;
        static final int END_IF = 55;
        static final int END_ELSE = 56;
        static final int LOOP = 57;
        static final int TRY = 58;
        static final int CATCH = 59;
        static final int END_TRY = 60;
        static final int CLOSE = 61;

        static final int NONE = -1;
        static final int LIMIT = 3100;

        private final int[] op;
        private final int[] a;
        private final int[] b;
        private final int[] target;
        private final int[] place;
        private final int[] variables;
        private final int[] tryAround;
        private int size;
        private int statement;
        private int openTry;

        Code() {
            op = new int[LIMIT];
            a = new int[LIMIT];
            b = new int[LIMIT];
            target = new int[LIMIT];
            place = new int[LIMIT];
            variables = new int[LIMIT];
            tryAround = new int[LIMIT];
        }

        void clear() {
            size = 0;
            statement = 0;
            openTry = NONE;
        }

        /** Answers where the new piece stands. */
        int emit(int itsOp, int itsA, int itsB) {
            if (size >= LIMIT) {
                return LIMIT - 1;
            }
            op[size] = itsOp;
            a[size] = itsA;
            b[size] = itsB;
            target[size] = 0;
            place[size] = statement;
            variables[size] = 0;
            tryAround[size] = openTry;
            size++;
            return size - 1;
        }

        int lastOp(int from) {
            return size > from ? op[size - 1] : NONE;
        }

        /** Answers the name that the piece told. */
        int takeBackLast() {
            if (size == 0) {
                return NONE;
            }
            size--;
            return a[size];
        }

        boolean has(int at) {
            return at >= 0 && at < size;
        }

        boolean isSilent(int at) {
            return has(at) && op[at] >= SELF;
        }
    }

    /** Reads the words as a program: classes, members, and the code of methods. */
    private static final class Reader {
        private static final int NEST_LIMIT = 30;
        private static final int WAITING_LIMIT = 400;
        private static final int ORS = 1;
        private static final int ANDS = 2;
        private static final int EQUALS = 3;
        private static final int RELATED = 4;
        private static final int SUMS = 5;
        private static final int PRODUCTS = 6;
        private static final int ONES = 7;
        private static final int FINE = -1;

        private final Words words;
        private final Classes classes;
        private final Members members;
        private final Code code;
        private final int[] waitingOp;
        private final int[] waitingLevel;
        private final int[] waitingMark;
        private int waiting;
        private int at;
        private int kind;
        private int nest;
        private int wrong;

        Reader(Words allWords, Classes allClasses, Members allMembers, Code allCode) {
            words = allWords;
            classes = allClasses;
            members = allMembers;
            code = allCode;
            waitingOp = new int[WAITING_LIMIT];
            waitingLevel = new int[WAITING_LIMIT];
            waitingMark = new int[WAITING_LIMIT];
        }

        /** Answers the place where the program is wrong, or -1. */
        int read() {
            begin();
            boolean more = true;
            for (int guard = 0; guard < Words.LIMIT && more; guard++) {
                take(Words.CLASS);
                int place = words.places[at];
                int name = takeName();
                int parentName = Classes.NONE;
                if (kind == ':') {
                    advance();
                    parentName = takeName();
                }
                classes.add(name, place, parentName, members.size);
                readMembers();
                classes.closeLast(members.size);
                more = kind == Words.CLASS;
            }
            take(Words.END);
            return wrong;
        }

        private void begin() {
            at = 0;
            kind = words.kinds[0];
            nest = 0;
            waiting = 0;
            wrong = FINE;
            classes.clear();
            members.clear();
            code.clear();
        }

        private void advance() {
            if (wrong == FINE && at + 1 < words.size) {
                at++;
                kind = words.kinds[at];
            }
        }

        /** Behind the wrong place no word fits anywhere, so that all reading ends by itself. */
        private void fail() {
            if (wrong == FINE) {
                wrong = words.places[at];
                kind = Words.WRONG;
            }
        }

        private void take(int wanted) {
            if (kind == wanted) {
                advance();
            } else {
                fail();
            }
        }

        private int takeName() {
            int name = words.values[at];
            if (kind == Words.NAME) {
                advance();
            } else {
                fail();
            }
            return name;
        }

        private void open(int wanted) {
            if (kind == wanted && nest < NEST_LIMIT) {
                advance();
            } else {
                fail();
            }
            nest++;
        }

        private void close(int wanted) {
            if (kind == wanted) {
                advance();
            } else {
                fail();
            }
            nest--;
        }

        /** A class is told by its name as yet, for it may stand further behind in the text. */
        private int takeType() {
            int type = Classes.UNKNOWN;
            if (kind == Words.NAME) {
                type = words.values[at];
            } else if (kind == Words.INT) {
                type = Classes.INT;
            } else if (kind == Words.BOOL) {
                type = Classes.BOOL;
            } else if (kind == Words.INTS) {
                type = Classes.INTS;
            }
            if (type == Classes.UNKNOWN) {
                fail();
            } else {
                advance();
            }
            return type;
        }

        private void readMembers() {
            open('{');
            for (int guard = 0; guard < Words.LIMIT && wrong == FINE && kind != '}'; guard++) {
                boolean isVoid = kind == Words.VOID;
                int type = Classes.VOID;
                if (isVoid) {
                    advance();
                } else {
                    type = takeType();
                }
                int place = words.places[at];
                int name = takeName();
                boolean isField = !isVoid && kind == ';';
                members.add(name, place, type, !isField);
                if (isField) {
                    advance();
                } else {
                    readParameters();
                    members.codeOfLast(code.size);
                    code.statement = readBlock();
                    code.emit(Code.CLOSE, 0, 0);
                }
            }
            close('}');
        }

        private void readParameters() {
            open('(');
            if (kind != ')') {
                readParameter();
                for (int guard = 0; guard < Words.LIMIT && kind == ','; guard++) {
                    advance();
                    readParameter();
                }
            }
            close(')');
        }

        private void readParameter() {
            int type = takeType();
            members.addParameter(type, takeName());
        }

        /** Answers the place of the block's last word. */
        private int readBlock() {
            open('{');
            for (int guard = 0; guard < Words.LIMIT && wrong == FINE && kind != '}'; guard++) {
                readStatement();
            }
            int place = words.places[at];
            close('}');
            return place;
        }

        private void readStatement() {
            code.statement = words.places[at];
            switch (kind) {
                case Words.IF:
                    readIf();
                    break;
                case Words.WHILE:
                    readWhile();
                    break;
                case Words.TRY:
                    readTry();
                    break;
                case Words.RETURN:
                    readReturn();
                    break;
                case Words.THROW:
                    readWork(Code.THROW);
                    break;
                case Words.PRINT:
                    readWork(Code.PRINT);
                    break;
                default:
                    if (tellsVariable()) {
                        readVariable();
                    } else {
                        readCallOrGift();
                    }
                    break;
            }
        }

        private boolean tellsVariable() {
            if (kind == Words.NAME) {
                return at + 1 < words.size && words.kinds[at + 1] == Words.NAME;
            }
            return kind == Words.INT || kind == Words.BOOL || kind == Words.INTS;
        }

        private void readBracketed() {
            open('(');
            readExpression();
            close(')');
        }

        private void readIf() {
            advance();
            readBracketed();
            int jump = code.emit(Code.IF, 0, 0);
            readBlock();
            if (kind != Words.ELSE) {
                code.target[jump] = code.emit(Code.END_IF, 0, 0);
                return;
            }
            advance();
            int over = code.emit(Code.ELSE, 0, 0);
            code.target[jump] = code.size;
            readBlock();
            code.target[over] = code.emit(Code.END_ELSE, 0, 0);
        }

        private void readWhile() {
            advance();
            int again = code.size;
            readBracketed();
            int jump = code.emit(Code.WHILE, 0, 0);
            readBlock();
            int back = code.emit(Code.LOOP, 0, 0);
            code.target[back] = again;
            code.target[jump] = code.size;
        }

        private void readTry() {
            int place = code.statement;
            advance();
            int around = code.openTry;
            int opened = code.emit(Code.TRY, 0, 0);
            code.openTry = opened;
            readBlock();
            code.openTry = around;
            take(Words.CATCH);
            open('(');
            int className = takeName();
            int name = takeName();
            close(')');
            // What is bad about these names is told by the place of the whole statement.
            code.statement = place;
            int caught = code.emit(Code.CATCH, className, name);
            code.a[opened] = caught;
            readBlock();
            code.target[caught] = code.emit(Code.END_TRY, 0, 0);
        }

        private void readReturn() {
            advance();
            if (kind == ';') {
                code.emit(Code.RETURN, 0, 0);
            } else {
                readExpression();
                code.emit(Code.RETURN_VALUE, 0, 0);
            }
            take(';');
        }

        private void readWork(int op) {
            advance();
            readExpression();
            code.emit(op, 0, 0);
            take(';');
        }

        private void readVariable() {
            int type = takeType();
            int name = takeName();
            if (kind == '=') {
                advance();
                readExpression();
                code.emit(Code.TELL_GIVEN, name, type);
            } else {
                code.emit(Code.TELL, name, type);
            }
            take(';');
        }

        private void readCallOrGift() {
            int from = code.size;
            readExpression();
            int last = code.lastOp(from);
            int gift = giftOf(last);
            if (kind == '=' && gift != Code.NONE) {
                int name = code.takeBackLast();
                advance();
                readExpression();
                code.emit(gift, name, 0);
            } else if (kind == ';' && last == Code.CALL) {
                code.emit(Code.DROP, 0, 0);
            } else {
                fail();
            }
            take(';');
        }

        /** What gives a value to the place that this piece would take it from. */
        private static int giftOf(int op) {
            switch (op) {
                case Code.NAME:
                    return Code.GIVE_NAME;
                case Code.DOT:
                    return Code.GIVE_DOT;
                case Code.ELEMENT:
                    return Code.GIVE_ELEMENT;
                default:
                    return Code.NONE;
            }
        }

        /** Signs wait until what stands to their right is read; so no level needs a call of its own. */
        private void readExpression() {
            int base = waiting;
            readOne();
            int level = levelOf(kind);
            release(base, leastReleased(level));
            for (int guard = 0; guard < Words.LIMIT && fits(base, level); guard++) {
                readSign(level);
                level = levelOf(kind);
                release(base, leastReleased(level));
            }
            release(base, 0);
        }

        private static int levelOf(int k) {
            switch (k) {
                case Words.EITHER:
                    return ORS;
                case Words.BOTH:
                    return ANDS;
                case Words.SAME:
                case Words.OTHER:
                    return EQUALS;
                case '<':
                case Words.AT_MOST:
                case Words.IS:
                    return RELATED;
                case '+':
                case '-':
                    return SUMS;
                case '*':
                case '/':
                case '%':
                    return PRODUCTS;
                default:
                    return 0;
            }
        }

        private static int opOf(int k) {
            switch (k) {
                case Words.EITHER:
                    return Code.OR;
                case Words.BOTH:
                    return Code.AND;
                case Words.SAME:
                    return Code.SAME;
                case Words.OTHER:
                    return Code.OTHER;
                case '<':
                    return Code.LESS;
                case Words.AT_MOST:
                    return Code.AT_MOST;
                case '+':
                    return Code.ADD;
                case '-':
                    return Code.SUBTRACT;
                case '*':
                    return Code.MULTIPLY;
                case '/':
                    return Code.DIVIDE;
                default:
                    return Code.REMAINDER;
            }
        }

        /** EQUAL and RELATED have one sign at most, so theirs wait on to meet a second one. */
        private static int leastReleased(int level) {
            return level == EQUALS || level == RELATED ? level + 1 : level;
        }

        private boolean fits(int base, int level) {
            if (level == 0 || waiting <= base) {
                return level > 0;
            }
            return waitingLevel[waiting - 1] < level && waitingOp[waiting - 1] != Code.IS;
        }

        private void readSign(int level) {
            int op = opOf(kind);
            boolean isIs = kind == Words.IS;
            advance();
            if (isIs) {
                await(Code.IS, level, takeName());
                return;
            }
            int mark = 0;
            if (level == ORS || level == ANDS) {
                mark = code.emit(op, 0, 0);
            }
            await(op, level, mark);
            readOne();
        }

        private void await(int op, int level, int mark) {
            if (waiting < WAITING_LIMIT) {
                waitingOp[waiting] = op;
                waitingLevel[waiting] = level;
                waitingMark[waiting] = mark;
                waiting++;
            }
        }

        private void release(int base, int least) {
            while (waiting > base && waitingLevel[waiting - 1] >= least) {
                waiting--;
                int op = waitingOp[waiting];
                int mark = waitingMark[waiting];
                if (op == Code.AND || op == Code.OR) {
                    code.target[mark] = code.emit(Code.JOINED, 0, 0);
                } else {
                    code.emit(op, mark, 0);
                }
            }
        }

        private void readOne() {
            int base = waiting;
            for (int guard = 0; guard < Words.LIMIT && (kind == '-' || kind == '!'); guard++) {
                await(kind == '-' ? Code.MINUS : Code.NOT, ONES, 0);
                open(kind);
            }
            readFirst();
            for (int guard = 0; guard < Words.LIMIT && isBehindFirst(kind); guard++) {
                readBehind();
            }
            nest -= waiting - base;
            release(base, ONES);
        }

        private static boolean isBehindFirst(int k) {
            return k == '.' || k == '[' || k == Words.AS;
        }

        private void readBehind() {
            if (kind == '[') {
                readIndex();
                code.emit(Code.ELEMENT, 0, 0);
                return;
            }
            boolean isAs = kind == Words.AS;
            advance();
            int name = takeName();
            if (isAs) {
                code.emit(Code.AS, name, 0);
            } else if (kind == '(') {
                int arguments = readArguments();
                code.emit(Code.CALL, name, arguments);
            } else {
                code.emit(Code.DOT, name, 0);
            }
        }

        private void readIndex() {
            open('[');
            readExpression();
            close(']');
        }

        private int readArguments() {
            int arguments = 0;
            open('(');
            if (kind != ')') {
                readExpression();
                arguments++;
                for (int guard = 0; guard < Words.LIMIT && kind == ','; guard++) {
                    advance();
                    readExpression();
                    arguments++;
                }
            }
            close(')');
            return arguments;
        }

        private void readFirst() {
            switch (kind) {
                case Words.NUMBER:
                    readSingle(Code.NUMBER, words.values[at]);
                    break;
                case Words.TRUE:
                    readSingle(Code.TRUTH, 1);
                    break;
                case Words.FALSE:
                    readSingle(Code.TRUTH, 0);
                    break;
                case Words.NULL:
                    readSingle(Code.NOTHING, 0);
                    break;
                case Words.THIS:
                    readSingle(Code.THIS, 0);
                    break;
                case Words.READ:
                    readSingle(Code.READ, 0);
                    break;
                case Words.NAME:
                    readNamed();
                    break;
                case Words.NEW:
                    readNew();
                    break;
                case '(':
                    readBracketed();
                    break;
                default:
                    fail();
                    break;
            }
        }

        private void readSingle(int op, int value) {
            advance();
            code.emit(op, value, 0);
        }

        private void readNamed() {
            int name = takeName();
            if (kind != '(') {
                code.emit(Code.NAME, name, 0);
                return;
            }
            code.emit(Code.SELF, 0, 0);
            int arguments = readArguments();
            code.emit(Code.CALL, name, arguments);
        }

        private void readNew() {
            advance();
            if (kind == Words.INTS) {
                advance();
                readIndex();
                code.emit(Code.ROW, 0, 0);
            } else {
                code.emit(Code.NEW, takeName(), 0);
            }
        }
    }

    /** The variables that are there at a place of the text, and which of them are set. */
    private static final class Scope {
        static final int LIMIT = 1000;
        private static final int LEVELS = 32;
        private static final int BIT_ROW = LIMIT / 32 + 1;

        private final int[] name;
        private final int[] type;
        private int size;
        private int most;
        private final int[] set;
        private boolean dead;
        private final int[][] setAhead;
        private final int[][] setBehind;
        private final boolean[] deadAhead;
        private final boolean[] deadBehind;
        private final int[] sizeAhead;
        private int level;

        Scope() {
            name = new int[LIMIT];
            type = new int[LIMIT];
            set = new int[BIT_ROW];
            setAhead = new int[LEVELS][BIT_ROW];
            setBehind = new int[LEVELS][BIT_ROW];
            deadAhead = new boolean[LEVELS];
            deadBehind = new boolean[LEVELS];
            sizeAhead = new int[LEVELS];
        }

        void clear() {
            size = 0;
            most = 0;
            level = 0;
            dead = false;
        }

        int find(int itsName) {
            for (int v = 0; v < size; v++) {
                if (name[v] == itsName) {
                    return v;
                }
            }
            return Code.NONE;
        }

        /** Answers the variable's slot. */
        int add(int itsName, int itsType, boolean given) {
            if (size >= LIMIT) {
                return LIMIT - 1;
            }
            name[size] = itsName;
            type[size] = itsType;
            set[size >> 5] &= ~(1 << (size & 31));
            if (given) {
                give(size);
            }
            size++;
            most = Math.max(most, size);
            return size - 1;
        }

        void give(int v) {
            set[v >> 5] |= 1 << (v & 31);
        }

        /** Behind what can't end no way leads on, so that there all are set. */
        boolean isSet(int v) {
            return dead || (set[v >> 5] & (1 << (v & 31))) != 0;
        }

        void stop() {
            dead = true;
        }

        void open() {
            if (level < LEVELS) {
                System.arraycopy(set, 0, setAhead[level], 0, BIT_ROW);
                deadAhead[level] = dead;
                sizeAhead[level] = size;
                level++;
            }
        }

        /** From the end of one block to the beginning of the other that began as it did. */
        void turn() {
            if (level > 0) {
                System.arraycopy(set, 0, setBehind[level - 1], 0, BIT_ROW);
                deadBehind[level - 1] = dead;
                restore();
            }
        }

        /** Behind the block all is as it was ahead of it. */
        void leave() {
            if (level > 0) {
                restore();
                level--;
            }
        }

        /** Behind both blocks what is set is what is set behind each. */
        void merge() {
            if (level == 0) {
                return;
            }
            level--;
            size = sizeAhead[level];
            if (dead) {
                System.arraycopy(setBehind[level], 0, set, 0, BIT_ROW);
                dead = deadBehind[level];
            } else if (!deadBehind[level]) {
                for (int i = 0; i < BIT_ROW; i++) {
                    set[i] &= setBehind[level][i];
                }
            }
        }

        private void restore() {
            System.arraycopy(setAhead[level - 1], 0, set, 0, BIT_ROW);
            dead = deadAhead[level - 1];
            size = sizeAhead[level - 1];
        }
    }

    /** Looks for what is bad in classes, then in members, then whether there is a main. */
    private static final class Checker {
        private static final int FINE = -1;

        private final Classes classes;
        private final Members members;

        Checker(Classes allClasses, Members allMembers) {
            classes = allClasses;
            members = allMembers;
        }

        /** Answers the first place that is bad, or -1. */
        int check(int length) {
            int bad = badClass();
            if (bad != FINE) {
                return bad;
            }
            members.resolveTypes();
            bad = badMember();
            if (bad != FINE) {
                return bad;
            }
            members.layOutFields();
            return hasMain() ? FINE : length;
        }

        private int badClass() {
            for (int c = Classes.BUILT_IN; c < classes.size; c++) {
                if (classes.find(classes.name[c]) != c) {
                    return classes.place[c];
                }
            }
            for (int c = Classes.BUILT_IN; c < classes.size; c++) {
                if (classes.parentName[c] != Classes.NONE) {
                    int parent = classes.find(classes.parentName[c]);
                    if (parent == Classes.UNKNOWN) {
                        return classes.place[c];
                    }
                    classes.parent[c] = parent;
                }
            }
            for (int c = Classes.BUILT_IN; c < classes.size; c++) {
                if (isOnOwnWay(c)) {
                    return classes.place[c];
                }
            }
            return FINE;
        }

        private boolean isOnOwnWay(int c) {
            int at = classes.parentOf(c);
            for (int guard = 0; guard < classes.size && at != Classes.NONE; guard++) {
                if (at == c) {
                    return true;
                }
                at = classes.parentOf(at);
            }
            return false;
        }

        private int badMember() {
            for (int c = Classes.BUILT_IN; c < classes.size; c++) {
                for (int m = classes.from[c]; m < classes.to[c]; m++) {
                    boolean fine = members.method[m] ? isMethodFine(c, m) : isFieldFine(c, m);
                    if (!fine) {
                        return members.place[m];
                    }
                }
            }
            return FINE;
        }

        private boolean isFieldFine(int c, int m) {
            int name = members.name[m];
            return members.type[m] != Classes.UNKNOWN
                && members.among(classes.from[c], m, false, name) == Classes.NONE
                && members.had(classes.parent[c], false, name) == Classes.NONE;
        }

        private boolean isMethodFine(int c, int m) {
            int name = members.name[m];
            if (members.type[m] == Classes.UNKNOWN || !areParametersFine(m)
                || members.among(classes.from[c], m, true, name) != Classes.NONE) {
                return false;
            }
            int above = members.had(classes.parent[c], true, name);
            return above == Classes.NONE || haveSameTypes(m, above);
        }

        private boolean areParametersFine(int m) {
            for (int i = 0; i < members.parameters[m]; i++) {
                if (members.parameterTypeOf(m, i) == Classes.UNKNOWN) {
                    return false;
                }
                for (int j = 0; j < i; j++) {
                    if (members.parameterNameOf(m, i) == members.parameterNameOf(m, j)) {
                        return false;
                    }
                }
            }
            return true;
        }

        private boolean haveSameTypes(int m, int other) {
            if (members.type[m] != members.type[other]
                || members.parameters[m] != members.parameters[other]) {
                return false;
            }
            for (int i = 0; i < members.parameters[m]; i++) {
                if (members.parameterTypeOf(m, i) != members.parameterTypeOf(other, i)) {
                    return false;
                }
            }
            return true;
        }

        private boolean hasMain() {
            int c = classes.find(Words.NAME_MAIN_CLASS);
            int m = members.had(c, true, Words.NAME_MAIN);
            return m != Classes.NONE && members.type[m] == Classes.INT && members.parameters[m] == 0;
        }
    }

    /** Goes through a method's code with a pile of types, as the machine will with words. */
    private static final class Typer {
        private static final int FINE = -1;

        private final Classes classes;
        private final Members members;
        private final Code code;
        private final Scope scope;
        private final int[] types;
        private int top;
        private int deepest;
        private int self;
        private int result;

        Typer(Classes allClasses, Members allMembers, Code allCode) {
            classes = allClasses;
            members = allMembers;
            code = allCode;
            scope = new Scope();
            types = new int[Code.LIMIT];
        }

        /** Answers the first bad place of all methods, or -1. */
        int check() {
            for (int c = Classes.BUILT_IN; c < classes.size; c++) {
                for (int m = classes.from[c]; m < classes.to[c]; m++) {
                    if (members.method[m]) {
                        enter(c, m);
                        int closing = codeEnd(members.codeFrom[m]);
                        for (int at = members.codeFrom[m]; at <= closing; at++) {
                            code.variables[at] = scope.size;
                            if (!isFine(at, code.op[at])) {
                                return code.place[at];
                            }
                        }
                        members.slots[m] = scope.most;
                        members.depth[m] = deepest;
                    }
                }
            }
            return FINE;
        }

        private void enter(int c, int m) {
            self = c;
            result = members.type[m];
            top = 0;
            deepest = 0;
            scope.clear();
            for (int i = 0; i < members.parameters[m]; i++) {
                scope.add(members.parameterNameOf(m, i), members.parameterTypeOf(m, i), true);
            }
        }

        /** Where the last piece of the method stands whose code begins at from. */
        private int codeEnd(int from) {
            int at = from;
            while (at < code.size - 1 && code.op[at] != Code.CLOSE) {
                at++;
            }
            return at;
        }

        private boolean isFine(int at, int op) {
            if (op <= Code.OWN) {
                return isValueFine(at, op);
            }
            if (op <= Code.IS) {
                return isPartFine(at, op);
            }
            if (op <= Code.OR) {
                return isSignFine(op);
            }
            if (op <= Code.TELL_GIVEN) {
                return isGiftFine(at, op);
            }
            if (op <= Code.PRINT) {
                return isWorkFine(op);
            }
            return isSilentFine(at, op);
        }

        /** Answers false for what has no type. */
        private boolean push(int type) {
            if (type == Classes.UNKNOWN || top >= types.length) {
                return false;
            }
            types[top] = type;
            top++;
            deepest = Math.max(deepest, top);
            return true;
        }

        private int pop() {
            if (top == 0) {
                return Classes.UNKNOWN;
            }
            top--;
            return types[top];
        }

        private boolean isValueFine(int at, int op) {
            switch (op) {
                case Code.NUMBER:
                case Code.READ:
                    return push(Classes.INT);
                case Code.TRUTH:
                    return push(Classes.BOOL);
                case Code.NOTHING:
                    return push(Classes.NULL);
                case Code.THIS:
                    return push(self);
                default:
                    return isNameFine(at);
            }
        }

        private boolean isNameFine(int at) {
            int v = scope.find(code.a[at]);
            if (v == Code.NONE) {
                return push(fieldType(at, self, Code.OWN));
            }
            code.op[at] = Code.VARIABLE;
            code.a[at] = v;
            return scope.isSet(v) && push(scope.type[v]);
        }

        /** Makes the piece at find the field that it names in an object of class c. */
        private int fieldType(int at, int c, int op) {
            int m = members.had(c, false, code.a[at]);
            if (m == Classes.NONE) {
                return Classes.UNKNOWN;
            }
            code.op[at] = op;
            code.a[at] = members.offset[m];
            return members.type[m];
        }

        private boolean isPartFine(int at, int op) {
            switch (op) {
                case Code.DOT:
                    return isDotFine(at);
                case Code.ELEMENT:
                    return pop() == Classes.INT && pop() == Classes.INTS && push(Classes.INT);
                case Code.NEW:
                    return push(classNamed(at));
                case Code.ROW:
                    return pop() == Classes.INT && push(Classes.INTS);
                case Code.AS:
                    return isObject(pop()) && push(classNamed(at));
                default:
                    return isObject(pop()) && classNamed(at) >= 0 && push(Classes.BOOL);
            }
        }

        private boolean isDotFine(int at) {
            int type = pop();
            if (type == Classes.INTS && code.a[at] == Words.NAME_SIZE) {
                code.op[at] = Code.LENGTH;
                return push(Classes.INT);
            }
            return push(fieldType(at, type, Code.FIELD));
        }

        private int classNamed(int at) {
            code.a[at] = classes.find(code.a[at]);
            return code.a[at];
        }

        private static boolean isObject(int type) {
            return type >= 0 || type == Classes.NULL;
        }

        private boolean isSignFine(int op) {
            switch (op) {
                case Code.MINUS:
                    return pop() == Classes.INT && push(Classes.INT);
                case Code.NOT:
                    return pop() == Classes.BOOL && push(Classes.BOOL);
                case Code.AND:
                case Code.OR:
                    return pop() == Classes.BOOL;
                case Code.SAME:
                case Code.OTHER:
                    return areComparable(pop(), pop()) && push(Classes.BOOL);
                case Code.LESS:
                case Code.AT_MOST:
                    return areNumbers(pop(), pop()) && push(Classes.BOOL);
                default:
                    return areNumbers(pop(), pop()) && push(Classes.INT);
            }
        }

        private static boolean areNumbers(int right, int left) {
            return left == Classes.INT && right == Classes.INT;
        }

        private boolean areComparable(int right, int left) {
            if (left == Classes.INT || left == Classes.BOOL) {
                return left == right;
            }
            return isReference(left) && isReference(right)
                && (classes.isSub(left, right) || classes.isSub(right, left));
        }

        private static boolean isReference(int type) {
            return isObject(type) || type == Classes.INTS;
        }

        private boolean isGiftFine(int at, int op) {
            if (op == Code.CALL) {
                return isCallFine(at);
            }
            int type = pop();
            switch (op) {
                case Code.GIVE_NAME:
                    return isGivenNameFine(at, type);
                case Code.GIVE_DOT:
                    return fits(type, fieldType(at, pop(), Code.GIVE_FIELD));
                case Code.GIVE_ELEMENT:
                    return type == Classes.INT && pop() == Classes.INT && pop() == Classes.INTS;
                default:
                    return fits(type, variableType(at)) && tell(at, true);
            }
        }

        private boolean fits(int type, int wanted) {
            return wanted != Classes.UNKNOWN && classes.isSub(type, wanted);
        }

        private boolean isCallFine(int at) {
            int arguments = code.b[at];
            int base = top - arguments;
            if (arguments < 0 || base < 1) {
                return false;
            }
            int m = members.had(types[base - 1], true, code.a[at]);
            if (m == Classes.NONE || members.parameters[m] != arguments) {
                return false;
            }
            for (int i = 0; i < arguments; i++) {
                if (!classes.isSub(types[base + i], members.parameterTypeOf(m, i))) {
                    return false;
                }
            }
            top = base - 1;
            return push(members.type[m]);
        }

        private boolean isGivenNameFine(int at, int type) {
            int v = scope.find(code.a[at]);
            if (v == Code.NONE) {
                return fits(type, fieldType(at, self, Code.GIVE_OWN));
            }
            code.op[at] = Code.GIVE_VARIABLE;
            code.a[at] = v;
            scope.give(v);
            return classes.isSub(type, scope.type[v]);
        }

        private int variableType(int at) {
            int told = code.b[at];
            return told >= 0 ? classes.find(told) : told;
        }

        private boolean tell(int at, boolean given) {
            int type = variableType(at);
            if (type == Classes.UNKNOWN || scope.find(code.a[at]) != Code.NONE) {
                return false;
            }
            code.a[at] = scope.add(code.a[at], type, given);
            return true;
        }

        private boolean isWorkFine(int op) {
            switch (op) {
                case Code.IF:
                case Code.WHILE:
                    scope.open();
                    return pop() == Classes.BOOL;
                case Code.RETURN:
                    scope.stop();
                    return result == Classes.VOID;
                case Code.RETURN_VALUE:
                    scope.stop();
                    return result != Classes.VOID && classes.isSub(pop(), result);
                case Code.THROW:
                    scope.stop();
                    return pop() >= 0;
                default:
                    int type = pop();
                    return type == Classes.INT || type == Classes.BOOL;
            }
        }

        private boolean isSilentFine(int at, int op) {
            switch (op) {
                case Code.SELF:
                    return push(self);
                case Code.JOINED:
                    return pop() == Classes.BOOL && push(Classes.BOOL);
                case Code.DROP:
                    pop();
                    return true;
                case Code.TELL:
                    return tell(at, false);
                case Code.ELSE:
                    scope.turn();
                    return true;
                case Code.END_IF:
                case Code.LOOP:
                    scope.leave();
                    return true;
                case Code.END_ELSE:
                case Code.END_TRY:
                    scope.merge();
                    return true;
                case Code.TRY:
                    scope.open();
                    return true;
                case Code.CATCH:
                    return isCatchFine(at);
                default:
                    return result == Classes.VOID || scope.dead;
            }
        }

        private boolean isCatchFine(int at) {
            scope.turn();
            if (classNamed(at) < 0 || scope.find(code.b[at]) != Code.NONE) {
                return false;
            }
            code.b[at] = scope.add(code.b[at], code.a[at], true);
            return true;
        }
    }

    /**
     * The cells of objects. What can be reached is moved from one row of cells to the other
     * when room is wanted, and what is left behind is gone.
     */
    private static final class Heap {
        static final long REFERENCE = 1L << 32;
        static final long LOW = REFERENCE - 1;
        static final int HEAD = 2;
        // What stands in an object's first cell in the stead of a class.
        static final int ROW = -1;

        private static final int MOVED = -2;
        // The objects of faults lie ahead of the cells and are never moved.
        private static final int FIRST = Classes.BUILT_IN + 1;
        private static final int SIZE = MOST_HEAP + FIRST;

        private long[] cells;
        private long[] others;
        private int used;
        private int limit;

        Heap() {
            cells = new long[SIZE];
            others = new long[SIZE];
            for (int fault = 0; fault < Classes.BUILT_IN; fault++) {
                cells[fault + 1] = fault;
                others[fault + 1] = fault;
            }
            used = FIRST;
            limit = 0;
        }

        void clear(int itsLimit) {
            used = FIRST;
            limit = Math.min(itsLimit, MOST_HEAP);
        }

        static long faultObject(int fault) {
            return REFERENCE | (fault + 1);
        }

        static long number(int value) {
            return value & LOW;
        }

        int cellsUsed() {
            return used - FIRST;
        }

        boolean hasRoom(long wanted) {
            return wanted <= limit - cellsUsed();
        }

        /** To be called only when there is room. */
        long makeObject(int ofClass, int fields) {
            int address = used;
            if (fields < 0 || fields > SIZE - HEAD - address) {
                return 0;
            }
            cells[address] = ofClass;
            cells[address + 1] = fields;
            Arrays.fill(cells, address + HEAD, address + HEAD + fields, 0L);
            used = address + HEAD + fields;
            return REFERENCE | address;
        }

        int classOf(long object) {
            int address = (int) object;
            return address > 0 && address < SIZE ? (int) cells[address] : ROW;
        }

        int lengthOf(long object) {
            int address = (int) object;
            return address >= FIRST && address < SIZE - 1 ? (int) cells[address + 1] : 0;
        }

        boolean has(long object, int i) {
            return i >= 0 && i < lengthOf(object);
        }

        long at(long object, int i) {
            return has(object, i) ? cells[(int) object + HEAD + i] : 0;
        }

        void put(long object, int i, long word) {
            if (has(object, i)) {
                cells[(int) object + HEAD + i] = word;
            }
        }

        /** From here to finishMoving() objects are moved to the new row, which is cells already. */
        void beginMoving() {
            long[] old = cells;
            cells = others;
            others = old;
            used = FIRST;
        }

        long moved(long word) {
            int address = (int) word;
            if ((word & REFERENCE) == 0 || address < FIRST || address >= SIZE - 1) {
                return word;
            }
            if (others[address] == MOVED) {
                return others[address + 1];
            }
            int length = HEAD + (int) others[address + 1];
            if (length < HEAD || length > SIZE - address || length > SIZE - used) {
                return word;
            }
            System.arraycopy(others, address, cells, used, length);
            long now = REFERENCE | used;
            used += length;
            others[address] = MOVED;
            others[address + 1] = now;
            return now;
        }

        void finishMoving() {
            int address = FIRST;
            for (int guard = 0; guard < SIZE && address < used; guard++) {
                int next = address + HEAD + (int) cells[address + 1];
                if (cells[address] != ROW) {
                    for (int i = address + HEAD; i < next; i++) {
                        cells[i] = moved(cells[i]);
                    }
                }
                address = next;
            }
        }
    }

    /** Runs the code, a STEP at a time, on a pile that holds all open methods' words. */
    private static final class Machine {
        private static final int NULL = 0;
        private static final int BOUNDS = 1;
        private static final int ZERO = 2;
        private static final int CAST = 3;
        private static final int SIZE = 4;
        private static final int NOT_BEGUN = -1;
        private static final int RUNNING = 0;
        private static final int RETURNED = 1;
        private static final int OVER = 2;
        private static final int NO_ROOM = 3;
        private static final int TOO_DEEP = 4;
        private static final int METHODS = 100;
        private static final int PRINTS = 500;
        private static final int FIRST_PILE = 2000;
        // A text of 3000 bytes tells no more than some 2300 words for each of 100 open methods.
        private static final int MOST_PILE = 400000;
        // Far more than the pieces without a STEP that can follow one another.
        private static final int SILENT_LIMIT = 1000000;
        // What a STEP answers that throws nothing.
        private static final long NO_OBJECT = 0;

        private final Classes classes;
        private final Members members;
        private final Code code;
        private final Input numbers;
        private final Heap cells;
        private long[] pile;
        private int top;
        private final int[] at;
        private final int[] base;
        private final int[] opened;
        private final long[] self;
        private int depth;
        private int next;
        private int ended;
        private int answer;
        private int steps;
        private int made;
        private int thrown;
        private final int[] prints;
        private int printed;

        Machine(Classes allClasses, Members allMembers, Code allCode, Input allNumbers) {
            classes = allClasses;
            members = allMembers;
            code = allCode;
            numbers = allNumbers;
            cells = new Heap();
            pile = new long[FIRST_PILE];
            at = new int[METHODS];
            base = new int[METHODS];
            opened = new int[METHODS];
            self = new long[METHODS];
            prints = new int[PRINTS];
            ended = NOT_BEGUN;
        }

        void forget() {
            ended = NOT_BEGUN;
            answer = 0;
            steps = 0;
            made = 0;
            thrown = 0;
            printed = 0;
            depth = 0;
            top = 0;
            next = 0;
        }

        int printedAt(int i) {
            return i >= 0 && i < printed && i < PRINTS ? prints[i] : 0;
        }

        int methodsOpen() {
            return ended == RUNNING ? depth : 0;
        }

        int cellsReached() {
            if (ended != RUNNING || depth == 0) {
                return 0;
            }
            at[depth - 1] = next;
            moveReached();
            return cells.cellsUsed();
        }

        /** To be called only when there is a program. */
        void begin(int heapSize) {
            forget();
            int c = classes.find(Words.NAME_MAIN_CLASS);
            int m = members.had(c, true, Words.NAME_MAIN);
            if (c < 0 || m < 0) {
                return;
            }
            ended = RUNNING;
            made = Heap.HEAD + classes.fields[c];
            cells.clear(Math.max(heapSize, made));
            push(cells.makeObject(c, classes.fields[c]));
            openMethod(m, 0);
            settle();
        }

        /** Answers how the run ended, 0 if it did not, -1 if none was begun. */
        int run(int n) {
            for (int i = 0; i < n && ended == RUNNING && code.has(next); i++) {
                steps++;
                long flying = act();
                if (flying != NO_OBJECT) {
                    throwObject(flying);
                }
                settle();
            }
            return ended;
        }

        private void push(long word) {
            if (top < pile.length) {
                pile[top] = word;
                top++;
            }
        }

        private long pushNumber(int value) {
            push(Heap.number(value));
            return NO_OBJECT;
        }

        private long pushTruth(boolean truth) {
            push(truth ? 1L : 0L);
            return NO_OBJECT;
        }

        private long pop() {
            if (top == 0) {
                return 0;
            }
            top--;
            return pile[top];
        }

        private int slot(int v) {
            return Math.min(base[depth - 1] + v, pile.length - 1);
        }

        /** Answers the object that the STEP throws, or none. */
        private long act() {
            int here = next;
            at[depth - 1] = here;
            next = here + 1;
            int op = code.op[here];
            if (op <= Code.OWN) {
                return actValue(op, code.a[here]);
            }
            if (op == Code.NEW || op == Code.ROW) {
                return make(op, code.a[here]);
            }
            if (op <= Code.IS) {
                return actPart(op, code.a[here]);
            }
            if (op <= Code.OTHER) {
                return actSign(op, pop());
            }
            if (op <= Code.OR) {
                return actJoin(op, code.target[here]);
            }
            if (op == Code.CALL) {
                return call(code.a[here], code.b[here]);
            }
            if (op <= Code.TELL_GIVEN) {
                return actGift(op, code.a[here], pop());
            }
            return actWork(op, code.target[here]);
        }

        /** What is no STEP is done at once behind the STEP ahead of it. */
        private void settle() {
            for (int guard = 0; guard < SILENT_LIMIT && ended == RUNNING && code.isSilent(next); guard++) {
                actSilent(code.op[next], next);
            }
        }

        private void actSilent(int op, int here) {
            next = here + 1;
            switch (op) {
                case Code.SELF:
                    push(self[depth - 1]);
                    break;
                case Code.DROP:
                    pop();
                    break;
                case Code.TELL:
                    pile[slot(code.a[here])] = 0;
                    break;
                case Code.ELSE:
                case Code.LOOP:
                case Code.CATCH:
                    next = code.target[here];
                    break;
                case Code.CLOSE:
                    closeMethod(0);
                    break;
                default:
                    break;
            }
        }

        private long actValue(int op, int a) {
            switch (op) {
                case Code.NUMBER:
                case Code.TRUTH:
                    push(Heap.number(a));
                    break;
                case Code.NOTHING:
                    push(0);
                    break;
                case Code.THIS:
                    push(self[depth - 1]);
                    break;
                case Code.READ:
                    push(Heap.number(numbers.next()));
                    break;
                case Code.VARIABLE:
                    push(pile[slot(a)]);
                    break;
                default:
                    push(cells.at(self[depth - 1], a));
                    break;
            }
            return NO_OBJECT;
        }

        private long actPart(int op, int a) {
            switch (op) {
                case Code.FIELD:
                    return takeField(pop(), a);
                case Code.LENGTH:
                    return takeLength(pop());
                case Code.ELEMENT:
                    return takeElement((int) pop(), pop());
                case Code.AS:
                    return cast(pop(), a);
                default:
                    return pushTruth(isOfClass(pop(), a));
            }
        }

        private long takeField(long object, int offset) {
            if (object == 0) {
                return Heap.faultObject(NULL);
            }
            push(cells.at(object, offset));
            return NO_OBJECT;
        }

        private long takeLength(long row) {
            return row == 0 ? Heap.faultObject(NULL) : pushNumber(cells.lengthOf(row));
        }

        private long takeElement(int i, long row) {
            long fault = elementFault(i, row);
            if (fault == NO_OBJECT) {
                push(cells.at(row, i));
            }
            return fault;
        }

        private long elementFault(int i, long row) {
            if (row == 0) {
                return Heap.faultObject(NULL);
            }
            return cells.has(row, i) ? NO_OBJECT : Heap.faultObject(BOUNDS);
        }

        private long cast(long object, int c) {
            if (object != 0 && !isOfClass(object, c)) {
                return Heap.faultObject(CAST);
            }
            push(object);
            return NO_OBJECT;
        }

        private boolean isOfClass(long object, int c) {
            return object != 0 && classes.isSub(cells.classOf(object), c);
        }

        /** Objects are moved together only when the room behind them is too small. */
        private long make(int op, int c) {
            int words = op == Code.ROW ? (int) pop() : classes.fields[c];
            if (words < 0) {
                return Heap.faultObject(SIZE);
            }
            long wanted = (long) Heap.HEAD + words;
            if (!cells.hasRoom(wanted)) {
                moveReached();
            }
            if (!cells.hasRoom(wanted)) {
                ended = NO_ROOM;
                return NO_OBJECT;
            }
            made += (int) wanted;
            push(cells.makeObject(op == Code.ROW ? Heap.ROW : c, words));
            return NO_OBJECT;
        }

        private void moveReached() {
            cells.beginMoving();
            for (int f = 0; f < depth; f++) {
                self[f] = cells.moved(self[f]);
                int variablesEnd = base[f] + code.variables[at[f]];
                for (int i = base[f]; i < variablesEnd && i < pile.length; i++) {
                    pile[i] = cells.moved(pile[i]);
                }
                int partsEnd = f + 1 < depth ? base[f + 1] : top;
                for (int i = base[f] + members.slots[opened[f]]; i < partsEnd; i++) {
                    pile[i] = cells.moved(pile[i]);
                }
            }
            cells.finishMoving();
        }

        private long actSign(int op, long rightWord) {
            int right = (int) rightWord;
            if (op == Code.MINUS) {
                return pushNumber(-right);
            }
            if (op == Code.NOT) {
                return pushTruth(right == 0);
            }
            long leftWord = pop();
            int left = (int) leftWord;
            switch (op) {
                case Code.MULTIPLY:
                    return pushNumber(left * right);
                case Code.DIVIDE:
                    return right == 0 ? Heap.faultObject(ZERO) : pushNumber(left / right);
                case Code.REMAINDER:
                    return right == 0 ? Heap.faultObject(ZERO) : pushNumber(left % right);
                case Code.ADD:
                    return pushNumber(left + right);
                case Code.SUBTRACT:
                    return pushNumber(left - right);
                case Code.LESS:
                    return pushTruth(left < right);
                case Code.AT_MOST:
                    return pushTruth(left <= right);
                case Code.SAME:
                    return pushTruth(leftWord == rightWord);
                default:
                    return pushTruth(leftWord != rightWord);
            }
        }

        private long actJoin(int op, int target) {
            boolean left = pop() != 0;
            if (left == (op == Code.OR)) {
                pushTruth(left);
                next = target;
            }
            return NO_OBJECT;
        }

        private long actGift(int op, int a, long word) {
            switch (op) {
                case Code.GIVE_FIELD:
                    return giveField(pop(), a, word);
                case Code.GIVE_ELEMENT:
                    return giveElement((int) pop(), pop(), word);
                case Code.GIVE_OWN:
                    cells.put(self[depth - 1], a, word);
                    return NO_OBJECT;
                default:
                    pile[slot(a)] = word;
                    return NO_OBJECT;
            }
        }

        private long giveField(long object, int offset, long word) {
            if (object == 0) {
                return Heap.faultObject(NULL);
            }
            cells.put(object, offset, word);
            return NO_OBJECT;
        }

        private long giveElement(int i, long row, long word) {
            long fault = elementFault(i, row);
            if (fault == NO_OBJECT) {
                cells.put(row, i, word);
            }
            return fault;
        }

        private long call(int name, int arguments) {
            int receiver = top - arguments - 1;
            long object = receiver >= 0 ? pile[receiver] : 0;
            if (object == 0) {
                return Heap.faultObject(NULL);
            }
            openMethod(members.had(cells.classOf(object), true, name), arguments);
            return NO_OBJECT;
        }

        /** The arguments on the pile become the first variables; what the call is of lies under them. */
        private void openMethod(int m, int arguments) {
            int from = top - arguments;
            if (depth >= METHODS || m < 0 || from < 1) {
                ended = TOO_DEEP;
                return;
            }
            int wordsEnd = from + members.slots[m];
            growPile(wordsEnd + members.depth[m] + 1);
            if (wordsEnd >= pile.length) {
                ended = TOO_DEEP;
                return;
            }
            base[depth] = from;
            opened[depth] = m;
            self[depth] = pile[from - 1];
            depth++;
            top = wordsEnd;
            next = members.codeFrom[m];
        }

        private void growPile(int wanted) {
            if (wanted > pile.length && wanted <= MOST_PILE) {
                pile = Arrays.copyOf(pile, Math.min(Math.max(wanted, pile.length * 2), MOST_PILE));
            }
        }

        private void closeMethod(long word) {
            top = base[depth - 1] - 1;
            depth--;
            if (depth == 0) {
                ended = RETURNED;
                answer = (int) word;
            } else {
                push(word);
                next = at[depth - 1] + 1;
            }
        }

        private long actWork(int op, int target) {
            switch (op) {
                case Code.IF:
                case Code.WHILE:
                    if (pop() == 0) {
                        next = target;
                    }
                    return NO_OBJECT;
                case Code.RETURN:
                    closeMethod(0);
                    return NO_OBJECT;
                case Code.RETURN_VALUE:
                    closeMethod(pop());
                    return NO_OBJECT;
                case Code.THROW:
                    long object = pop();
                    return object == 0 ? Heap.faultObject(NULL) : object;
                default:
                    print((int) pop());
                    return NO_OBJECT;
            }
        }

        private void print(int value) {
            if (printed >= 0 && printed < PRINTS) {
                prints[printed] = value;
            }
            printed++;
        }

        private void throwObject(long object) {
            thrown++;
            int c = cells.classOf(object);
            for (int f = depth - 1; f >= 0; f--) {
                int around = code.tryAround[at[f]];
                for (int guard = 0; guard < Code.LIMIT && around != Code.NONE; guard++) {
                    int caught = code.a[around];
                    if (classes.isSub(c, code.a[caught])) {
                        land(f, caught, object);
                        return;
                    }
                    around = code.tryAround[around];
                }
            }
            ended = OVER;
            answer = c;
        }

        private void land(int f, int caught, long object) {
            depth = f + 1;
            top = base[f] + members.slots[opened[f]];
            pile[slot(code.b[caught])] = object;
            next = caught + 1;
        }
    }
}
