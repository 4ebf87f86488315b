import java.util.Arrays;

/**
 * A house that makes programs smaller. All rows are made with the object and used again by every call,
 * so that no call makes an object of its own.
 */
public final class ShrinkHouse {
    public static final int NONE = -1;

    private static final int MAX_CLASSES = 10;
    private static final int MAX_FIELDS = 6;
    private static final int MAX_METHODS = 8;
    private static final int MAX_PARAMS = 3;
    private static final int MAX_LOCALS = 20;
    private static final int MAX_CODE = 120;
    private static final int MAX_STACK = 10;
    private static final int MAX_ENTRIES = 6;
    private static final int MAX_BUDGET = 12;
    private static final int MAX_STEPS = 20000;
    private static final int MAX_FRAMES = 40;
    private static final int MAX_OBJECTS = 200;
    private static final int MAX_OUTPUT = 100;
    private static final int TAPE_BYTES = 4000;
    private static final int ALL_FIELDS = MAX_CLASSES * MAX_FIELDS;
    private static final int ALL_METHODS = MAX_CLASSES * MAX_METHODS;
    private static final int ALL_CODE = ALL_METHODS * MAX_CODE;
    /** The most bytes that a container of a small program can have: heads, fields, methods, then codes of INTs. */
    private static final int CONTAINER_BYTES =
            3 + MAX_CLASSES * 4 + ALL_FIELDS * 3 + ALL_METHODS * (6 + MAX_PARAMS) + ALL_CODE * 5;
    /** Far above the rounds that any search for a fixed point here can need. */
    private static final int MANY = 1000000;
    private static final int PLACE = 1000;
    private static final int RULES = 12;

    private static final int INT = 0;
    private static final int NULL = 1;
    private static final int LOAD = 2;
    private static final int STORE = 3;
    private static final int POP = 4;
    private static final int DUP = 5;
    private static final int ADD = 6;
    private static final int SUB = 7;
    private static final int MUL = 8;
    private static final int DIV = 9;
    private static final int REM = 10;
    private static final int JUMP = 11;
    private static final int ZERO = 12;
    private static final int LESS = 13;
    private static final int IF_NULL = 14;
    private static final int NEW = 15;
    private static final int GET = 16;
    private static final int PUT = 17;
    private static final int READ = 18;
    private static final int WRITE = 19;
    private static final int CALL = 20;
    private static final int SEND = 21;
    private static final int RETURN = 22;
    private static final int OUT = 23;
    private static final int CAST = 24;
    private static final int IS = 25;
    private static final int TRAP = 26;

    private static final int TELLS_NOTHING = 0;
    private static final int TELLS_NUMBER = 1;
    private static final int TELLS_LOCAL = 2;
    private static final int TELLS_JUMP = 3;
    private static final int TELLS_CLASS = 4;
    private static final int TELLS_FIELD = 5;
    private static final int TELLS_METHOD = 6;
    /** What is told with each op. */
    private static final int[] TELLS = {
        1, 0, 2, 2, 0, 0, 0, 0, 0, 0, 0, 3, 3, 3, 3, 4, 5, 5, 5, 5, 6, 6, 0, 0, 4, 4, 0
    };

    private static final int T_UNSET = 0;
    private static final int T_INT = 1;
    private static final int T_NULL = 2;
    private static final int T_ANY = 3;
    private static final int T_CLASS = 4;
    /** Not types but what an instruction may want: any type at all, or any REF. */
    private static final int W_SOME = -1;
    private static final int W_REF = -2;

    private static final int GOING = -1;
    private static final int ENDED = 0;
    private static final int TRAPPED = 1;
    private static final int CUT = 2;

    private final byte[] tape = new byte[TAPE_BYTES];
    private int tapeLength = 0;
    private Program great = new Program();
    private Program little = new Program();
    /** A container is read into this one, so that the program stays if there is a FAULT. */
    private Program spare = new Program();
    private boolean hasGreat = false;
    private boolean hasLittle = false;
    private int greatBytes = 0;
    private final int[] entries = new int[MAX_ENTRIES];
    private int entryCount = 0;
    /** FAULT, then the three numbers that are told of it. */
    private final int[] faulty = {0, NONE, NONE, NONE};
    private final Reader reader = new Reader();
    private final Flow flow = new Flow();
    /** The METHOD of the program whose states the flow still has. */
    private int flowing = NONE;
    private final Shrinker shrinker = new Shrinker();
    private final Machine machine = new Machine();

    public ShrinkHouse() {
    }

    public boolean feed(int a, int b, int c, int d, int e) {
        if (tapeLength + 20 > TAPE_BYTES) {
            return false;
        }
        addNumber(a);
        addNumber(b);
        addNumber(c);
        addNumber(d);
        addNumber(e);
        return true;
    }

    private void addNumber(int number) {
        for (int shift = 24; shift >= 0; shift -= 8) {
            if (tapeLength < TAPE_BYTES) {
                tape[tapeLength] = (byte) (number >> shift);
                tapeLength++;
            }
        }
    }

    public boolean end(int n) {
        if (n < 0 || n > tapeLength) {
            return false;
        }
        tapeLength = n;
        return true;
    }

    public int read() {
        int length = tapeLength;
        tapeLength = 0;
        flowing = NONE;
        int found = findFault(length);
        if (found == 0) {
            Program old = great;
            great = spare;
            spare = old;
            hasGreat = true;
            hasLittle = false;
            greatBytes = length;
            entryCount = 0;
            machine.forget();
        }
        return found;
    }

    private int findFault(int length) {
        int wrong = reader.firstWrong(tape, length, spare);
        if (wrong != NONE) {
            return tellFault(1, wrong, NONE, NONE);
        }
        if (reader.findClash()) {
            return tellFault(2, reader.clashClass, reader.clashRow, reader.clashSort);
        }
        for (int m = 0; m < spare.methods; m++) {
            int found = flow.check(spare, m);
            if (found != 0) {
                int c = spare.owner[m];
                return tellFault(found, c, m - spare.firstMethod[c], flow.place);
            }
        }
        return tellFault(0, NONE, NONE, NONE);
    }

    private int tellFault(int number, int first, int second, int third) {
        faulty[0] = number;
        faulty[1] = first;
        faulty[2] = second;
        faulty[3] = third;
        return number;
    }

    public int fault(int what) {
        return what >= 0 && what < faulty.length ? faulty[what] : NONE;
    }

    public int size(boolean small, int what) {
        if (what < 0 || what > 4) {
            return NONE;
        }
        if (!(small ? hasLittle : hasGreat)) {
            return 0;
        }
        Program p = small ? little : great;
        switch (what) {
            case 0:
                return p.classes;
            case 1:
                return p.countFields();
            case 2:
                return p.methods;
            case 3:
                return p.countInstructions();
            default:
                return small ? shrinker.writer.length : greatBytes;
        }
    }

    public int method(boolean small, int c, int m, int what) {
        Program p = small ? little : great;
        if (!(small ? hasLittle : hasGreat) || !p.hasMethod(c, m)) {
            return NONE;
        }
        int number = p.firstMethod[c] + m;
        switch (what) {
            case 0:
                return p.methodName[number];
            case 1:
                return p.methodStatic[number];
            case 2:
                return p.result[number];
            case 3:
                return p.params[number];
            case 4:
                return p.locals[number];
            case 5:
                return p.code.length[number];
            case 6:
                return number;
            default:
                return NONE;
        }
    }

    public int type(int method, int i, int what) {
        if (!hasGreat || !great.hasInstruction(method, i)) {
            return NONE;
        }
        int height = great.code.height[method * MAX_CODE + i];
        if (what == 0) {
            return height >= 0 ? 1 : 0;
        }
        if (height < 0) {
            return NONE;
        }
        if (what == 1) {
            return height;
        }
        if (what >= 10 && what - 10 < great.locals[method]) {
            flowOf(method);
            return flow.localAt(i, what - 10);
        }
        if (what >= 30 && what - 30 < height) {
            flowOf(method);
            return flow.stackAt(i, what - 30);
        }
        return NONE;
    }

    private void flowOf(int method) {
        if (flowing != method) {
            flow.check(great, method);
            flowing = method;
        }
    }

    public int entry(int method) {
        if (!hasGreat || !great.hasNumber(method)) {
            return NONE;
        }
        if (great.methodStatic[method] == 0 || great.params[method] != 0) {
            return NONE;
        }
        for (int e = 0; e < entryCount; e++) {
            if (entries[e] == method) {
                return e;
            }
        }
        if (entryCount >= MAX_ENTRIES) {
            return NONE;
        }
        entries[entryCount] = method;
        entryCount++;
        hasLittle = false;
        return entryCount - 1;
    }

    public int shrink(int budget) throws IllegalArgumentException, IllegalStateException {
        if (budget < 0 || budget > MAX_BUDGET) {
            throw new IllegalArgumentException("the budget is not 0 to 12");
        }
        if (!hasGreat || entryCount == 0) {
            throw new IllegalStateException("no program, or no entry");
        }
        shrinker.makeSmall(great, little, entries, entryCount, budget);
        hasLittle = true;
        return shrinker.writer.length;
    }

    public int out(int i) {
        if (!hasLittle || i < 0 || i >= shrinker.writer.length || i >= CONTAINER_BYTES) {
            return NONE;
        }
        return shrinker.writer.row[i] & 255;
    }

    public int kept(int sort, int c, int k) {
        if (!hasLittle || !great.hasClass(c)) {
            return NONE;
        }
        if (sort == 0) {
            return shrinker.newClass[c];
        }
        if (sort == 1 && great.hasField(c, k)) {
            return shrinker.newField[c * MAX_FIELDS + k];
        }
        if (sort == 2 && great.hasMethod(c, k)) {
            int number = shrinker.newMethod[great.firstMethod[c] + k];
            return number == NONE ? NONE : number - little.firstMethod[little.owner[number]];
        }
        return NONE;
    }

    public int made(int what) {
        boolean known = what >= 0 && what <= 3 || what > 10 && what <= 10 + RULES;
        if (!known) {
            return NONE;
        }
        return hasLittle ? shrinker.counts[what] : 0;
    }

    public int origin(int method, int i, int k) {
        if (!hasLittle || !little.hasInstruction(method, i)) {
            return NONE;
        }
        int at = method * MAX_CODE + i;
        if (k == 0) {
            return shrinker.near[at];
        }
        return k == 1 ? shrinker.far[at] : NONE;
    }

    public int run(boolean small, int e, int steps) throws IllegalStateException, IllegalArgumentException {
        if (!(small ? hasLittle : hasGreat)) {
            throw new IllegalStateException("no such program");
        }
        if (e < 0 || e >= entryCount) {
            throw new IllegalArgumentException("no such entry");
        }
        if (steps < 1 || steps > MAX_STEPS) {
            throw new IllegalArgumentException("the steps are not 1 to 20000");
        }
        int first = small ? shrinker.newMethod[entries[e]] : entries[e];
        int how = machine.go(small ? little : great, first, steps);
        machine.tellBack(small, shrinker.near, shrinker.far);
        return how;
    }

    public int result(int what) {
        return machine.ran && what >= 0 && what < machine.told.length ? machine.told[what] : NONE;
    }

    public int output(int i) {
        if (!machine.ran || i < 0 || i >= MAX_OUTPUT || i >= machine.told[3]) {
            return 0;
        }
        return machine.output[i];
    }

    public int trace(int k) {
        return machine.ran && k >= 0 && k < machine.told[4] && k < MAX_FRAMES ? machine.traced[k] : NONE;
    }

    public int back(int k) {
        return machine.ran && k >= 0 && k < machine.told[7] && k < machine.toldBack.length
                ? machine.toldBack[k] : NONE;
    }

    public boolean again() {
        if (!hasLittle) {
            return false;
        }
        Program old = great;
        great = little;
        little = old;
        hasLittle = false;
        greatBytes = shrinker.writer.length;
        for (int e = 0; e < entryCount; e++) {
            entries[e] = shrinker.newMethod[entries[e]];
        }
        machine.forget();
        flowing = NONE;
        for (int m = 0; m < great.methods; m++) {
            flow.check(great, m);
        }
        return true;
    }

    private static boolean isJump(int op) {
        return op >= JUMP && op <= IF_NULL;
    }

    private static boolean goesOn(int op) {
        return op != JUMP && op != RETURN && op != TRAP;
    }

    /** DIV and REM by 0 answer 0 here: who calls has tested the divisor before. */
    private static int calculate(int op, int a, int b) {
        switch (op) {
            case ADD:
                return a + b;
            case SUB:
                return a - b;
            case MUL:
                return a * b;
            case DIV:
                return b == 0 ? 0 : a / b;
            default:
                return b == 0 ? 0 : a % b;
        }
    }

    /** The instructions of a program: METHOD m has the row of MAX_CODE from m * MAX_CODE on. */
    private static final class Code {
        final int[] length = new int[ALL_METHODS];
        final int[] op = new int[ALL_CODE];
        /** The number, local, instruction or class that is told. */
        final int[] arg = new int[ALL_CODE];
        /** The field or method that is told behind a class. */
        final int[] sub = new int[ALL_CODE];
        /** How many are on the stack ahead of it; NONE if it is not reached. */
        final int[] height = new int[ALL_CODE];
    }

    /** A program: FIELD k of CLASS c is at c * MAX_FIELDS + k, METHODS are at their numbers. */
    private static final class Program {
        int classes = 0;
        int methods = 0;
        final int[] className = new int[MAX_CLASSES];
        final int[] superOf = new int[MAX_CLASSES];
        /** How many classes are above. */
        final int[] depth = new int[MAX_CLASSES];
        final int[] fieldCount = new int[MAX_CLASSES];
        final int[] methodCount = new int[MAX_CLASSES];
        final int[] firstMethod = new int[MAX_CLASSES];
        final int[] fieldName = new int[ALL_FIELDS];
        final int[] fieldType = new int[ALL_FIELDS];
        final int[] fieldStatic = new int[ALL_FIELDS];
        final int[] owner = new int[ALL_METHODS];
        final int[] methodName = new int[ALL_METHODS];
        final int[] methodStatic = new int[ALL_METHODS];
        final int[] result = new int[ALL_METHODS];
        final int[] params = new int[ALL_METHODS];
        final int[] paramType = new int[ALL_METHODS * MAX_PARAMS];
        final int[] locals = new int[ALL_METHODS];
        final Code code = new Code();

        boolean hasClass(int c) {
            return c >= 0 && c < classes;
        }

        boolean hasField(int c, int k) {
            return hasClass(c) && k >= 0 && k < fieldCount[c];
        }

        boolean hasMethod(int c, int k) {
            return hasClass(c) && k >= 0 && k < methodCount[c];
        }

        boolean hasNumber(int m) {
            return m >= 0 && m < methods;
        }

        boolean hasInstruction(int m, int i) {
            return hasNumber(m) && i >= 0 && i < code.length[m];
        }

        int countFields() {
            int sum = 0;
            for (int c = 0; c < classes; c++) {
                sum += fieldCount[c];
            }
            return sum;
        }

        int countInstructions() {
            int sum = 0;
            for (int m = 0; m < methods; m++) {
                sum += code.length[m];
            }
            return sum;
        }

        boolean covers(int c, int below) {
            int x = below;
            for (int n = 0; n < MAX_CLASSES && x >= 0; n++) {
                if (x == c) {
                    return true;
                }
                x = superOf[x];
            }
            return false;
        }

        /** The METHOD that an object of CLASS c takes for a SEND of the told METHOD. */
        int meaning(int c, int toldMethod) {
            int x = c;
            for (int n = 0; n < MAX_CLASSES && x >= 0; n++) {
                int found = named(x, methodName[toldMethod]);
                if (found != NONE) {
                    return found;
                }
                x = superOf[x];
            }
            return NONE;
        }

        private int named(int c, int name) {
            int from = firstMethod[c];
            for (int k = 0; k < methodCount[c]; k++) {
                if (methodName[from + k] == name) {
                    return from + k;
                }
            }
            return NONE;
        }

        /** What a CALL of it takes from the stack besides its PARAMS. */
        int receivers(int m) {
            return methodStatic[m] == 0 ? 1 : 0;
        }

        int typeOfField(int c, int k) {
            int written = fieldType[c * MAX_FIELDS + k];
            return written == 0 ? T_INT : written - 1 + T_CLASS;
        }

        int typeOfParam(int m, int k) {
            int written = paramType[m * MAX_PARAMS + k];
            return written == 0 ? T_INT : written - 1 + T_CLASS;
        }

        /** Only for a METHOD that has a RESULT. */
        int typeOfResult(int m) {
            return result[m] == 1 ? T_INT : result[m] - 2 + T_CLASS;
        }

        boolean sameFace(int a, int b) {
            if (methodStatic[a] != 0 || methodStatic[b] != 0 || result[a] != result[b] || params[a] != params[b]) {
                return false;
            }
            for (int k = 0; k < params[a]; k++) {
                if (paramType[a * MAX_PARAMS + k] != paramType[b * MAX_PARAMS + k]) {
                    return false;
                }
            }
            return true;
        }
    }

    /** Reads a container into a program and finds FAULTS 1 and 2. */
    private static final class Reader {
        private byte[] bytes = null;
        private int length = 0;
        private int at = 0;
        private boolean failed = false;
        private Program into = null;
        /** The instructions that tell a FIELD or METHOD, and where its number is: looked at when all is read. */
        private final int[] tellingSpot = new int[TAPE_BYTES];
        private final int[] tellingPlace = new int[TAPE_BYTES];
        private int telling = 0;
        int clashClass = NONE;
        int clashRow = NONE;
        int clashSort = NONE;

        /** The place of the first byte that can't be there, NONE if there is none. */
        int firstWrong(byte[] row, int count, Program program) {
            bytes = row;
            length = count;
            into = program;
            at = 0;
            failed = false;
            telling = 0;
            next(83, 83);
            next(72, 72);
            into.classes = next(1, MAX_CLASSES);
            into.methods = 0;
            for (int c = 0; c < into.classes && !failed; c++) {
                readClass(c);
            }
            return failed || at < length ? at : firstStranger();
        }

        private int firstStranger() {
            for (int n = 0; n < telling; n++) {
                int spot = tellingSpot[n];
                if (!agrees(into.code.op[spot], into.code.arg[spot], into.code.sub[spot])) {
                    return tellingPlace[n];
                }
            }
            return NONE;
        }

        /** The next byte; once one has failed the place stays there, and the least one is answered. */
        private int next(int low, int high) {
            if (failed || at >= length || at >= bytes.length) {
                failed = true;
                return low;
            }
            int value = bytes[at] & 255;
            if (value < low || value > high) {
                failed = true;
                return low;
            }
            at++;
            return value;
        }

        private void readClass(int c) {
            into.className[c] = next(1, 255);
            int above = next(0, c) - 1;
            into.superOf[c] = above;
            into.depth[c] = above < 0 ? 0 : into.depth[above] + 1;
            into.fieldCount[c] = next(0, MAX_FIELDS);
            for (int k = 0; k < into.fieldCount[c]; k++) {
                int field = c * MAX_FIELDS + k;
                into.fieldName[field] = next(1, 255);
                into.fieldType[field] = next(0, into.classes);
                into.fieldStatic[field] = next(0, 1);
            }
            into.firstMethod[c] = into.methods;
            into.methodCount[c] = next(0, MAX_METHODS);
            for (int k = 0; k < into.methodCount[c] && !failed; k++) {
                readMethod(c, into.methods);
                into.methods++;
            }
        }

        private void readMethod(int c, int m) {
            into.owner[m] = c;
            into.methodName[m] = next(1, 255);
            into.methodStatic[m] = next(0, 1);
            into.result[m] = next(0, into.classes + 1);
            into.params[m] = next(0, MAX_PARAMS);
            for (int k = 0; k < into.params[m]; k++) {
                into.paramType[m * MAX_PARAMS + k] = next(0, into.classes);
            }
            into.locals[m] = next(into.params[m] + into.receivers(m), MAX_LOCALS);
            into.code.length[m] = next(1, MAX_CODE);
            for (int i = 0; i < into.code.length[m] && !failed; i++) {
                readInstruction(m, m * MAX_CODE + i);
            }
        }

        private void readInstruction(int m, int spot) {
            int op = next(0, TRAP);
            int arg = 0;
            int sub = 0;
            switch (TELLS[op]) {
                case TELLS_NUMBER:
                    arg = nextNumber();
                    break;
                case TELLS_LOCAL:
                    arg = next(0, into.locals[m] - 1);
                    break;
                case TELLS_JUMP:
                    arg = next(0, into.code.length[m] - 1);
                    break;
                case TELLS_CLASS:
                    arg = next(0, into.classes - 1);
                    break;
                case TELLS_FIELD:
                case TELLS_METHOD:
                    arg = next(0, into.classes - 1);
                    noteTelling(spot);
                    sub = next(0, 255);
                    break;
                default:
                    break;
            }
            into.code.op[spot] = op;
            into.code.arg[spot] = arg;
            into.code.sub[spot] = sub;
            into.code.height[spot] = NONE;
        }

        private int nextNumber() {
            int value = 0;
            for (int k = 0; k < 4; k++) {
                value = value << 8 | next(0, 255);
            }
            return value;
        }

        private void noteTelling(int spot) {
            if (telling < TAPE_BYTES) {
                tellingSpot[telling] = spot;
                tellingPlace[telling] = at;
                telling++;
            }
        }

        private boolean agrees(int op, int c, int k) {
            if (TELLS[op] == TELLS_FIELD) {
                int due = op == READ || op == WRITE ? 1 : 0;
                return into.hasField(c, k) && into.fieldStatic[c * MAX_FIELDS + k] == due;
            }
            return into.hasMethod(c, k) && (op == CALL || into.methodStatic[into.firstMethod[c] + k] == 0);
        }

        /** Whether there is a FAULT 2. */
        boolean findClash() {
            for (int c = 0; c < into.classes; c++) {
                for (int k = 0; k < into.fieldCount[c]; k++) {
                    if (fieldClashes(c, k)) {
                        return clash(c, k, 0);
                    }
                }
                for (int k = 0; k < into.methodCount[c]; k++) {
                    if (methodClashes(c, k) || methodClashesAbove(c, k)) {
                        return clash(c, k, 1);
                    }
                }
            }
            return false;
        }

        private boolean clash(int c, int row, int sort) {
            clashClass = c;
            clashRow = row;
            clashSort = sort;
            return true;
        }

        private boolean fieldClashes(int c, int k) {
            int from = c * MAX_FIELDS;
            for (int ahead = 0; ahead < k; ahead++) {
                if (into.fieldName[from + ahead] == into.fieldName[from + k]) {
                    return true;
                }
            }
            return false;
        }

        private boolean methodClashes(int c, int k) {
            int from = into.firstMethod[c];
            for (int ahead = 0; ahead < k; ahead++) {
                if (into.methodName[from + ahead] == into.methodName[from + k]) {
                    return true;
                }
            }
            return false;
        }

        private boolean methodClashesAbove(int c, int k) {
            int m = into.firstMethod[c] + k;
            int x = into.superOf[c];
            for (int n = 0; n < MAX_CLASSES && x >= 0; n++) {
                int other = into.named(x, into.methodName[m]);
                if (other != NONE && !into.sameFace(m, other)) {
                    return true;
                }
                x = into.superOf[x];
            }
            return false;
        }
    }

    /** Finds the states of a METHOD's instructions, and FAULTS 3 to 7. */
    private static final class Flow {
        int place = NONE;
        private int fault = 0;
        private Program p = null;
        private int m = NONE;
        private boolean changed = false;
        private final int[] heights = new int[MAX_CODE];
        private final int[] stacks = new int[MAX_CODE * MAX_STACK];
        private final int[] locals = new int[MAX_CODE * MAX_LOCALS];
        private final int[] nowStack = new int[MAX_STACK];
        private final int[] nowLocals = new int[MAX_LOCALS];
        private int now = 0;
        private final int[] wants = new int[MAX_PARAMS + 1];
        private int wanted = 0;
        private int gift = T_UNSET;
        private int gifts = 0;

        /** The METHOD's FAULT (0 without); its place is then the instruction looked at. */
        int check(Program program, int method) {
            p = program;
            m = method;
            fault = 0;
            place = NONE;
            begin();
            boolean more = true;
            for (int round = 0; round < MANY && more; round++) {
                changed = false;
                for (int i = 0; i < p.code.length[m] && fault == 0; i++) {
                    if (heights[i] >= 0) {
                        place = i;
                        fault = lookAt(i);
                    }
                }
                more = changed && fault == 0;
            }
            System.arraycopy(heights, 0, p.code.height, m * MAX_CODE, p.code.length[m]);
            return fault;
        }

        int localAt(int i, int l) {
            return locals[i * MAX_LOCALS + l];
        }

        int stackAt(int i, int k) {
            return stacks[i * MAX_STACK + k];
        }

        private void begin() {
            Arrays.fill(heights, NONE);
            Arrays.fill(locals, 0, MAX_LOCALS, T_UNSET);
            heights[0] = 0;
            int self = p.receivers(m);
            if (self == 1) {
                locals[0] = T_CLASS + p.owner[m];
            }
            for (int k = 0; k < p.params[m]; k++) {
                locals[self + k] = p.typeOfParam(m, k);
            }
        }

        private int lookAt(int i) {
            int spot = m * MAX_CODE + i;
            int op = p.code.op[spot];
            int arg = p.code.arg[spot];
            takeState(i);
            ask(op, arg, p.code.sub[spot]);
            int bad = takeWanted(op);
            if (bad != 0) {
                return bad;
            }
            if (op == STORE) {
                nowLocals[arg] = gift;
            }
            for (int k = 0; k < gifts; k++) {
                nowStack[now] = gift;
                now++;
            }
            if (goesOn(op)) {
                bad = i + 1 < p.code.length[m] ? goTo(i + 1) : 7;
            }
            return bad == 0 && isJump(op) ? goTo(arg) : bad;
        }

        private void takeState(int i) {
            now = heights[i];
            System.arraycopy(stacks, i * MAX_STACK, nowStack, 0, now);
            System.arraycopy(locals, i * MAX_LOCALS, nowLocals, 0, p.locals[m]);
        }

        /** Sets what the instruction wants, and what it gives as far as that does not hang on what it takes. */
        private void ask(int op, int arg, int sub) {
            wanted = 0;
            gifts = 0;
            gift = T_UNSET;
            if (op >= ADD && op <= REM) {
                want(T_INT);
                want(T_INT);
                give(T_INT);
                return;
            }
            switch (op) {
                case INT:
                    give(T_INT);
                    break;
                case NULL:
                    give(T_NULL);
                    break;
                case LOAD:
                    give(nowLocals[arg]);
                    break;
                case STORE:
                case POP:
                case DUP:
                    want(W_SOME);
                    break;
                case ZERO:
                case OUT:
                    want(T_INT);
                    break;
                case LESS:
                    want(T_INT);
                    want(T_INT);
                    break;
                case IF_NULL:
                    want(W_REF);
                    break;
                case RETURN:
                    if (p.result[m] != 0) {
                        want(p.typeOfResult(m));
                    }
                    break;
                case CALL:
                case SEND:
                    askOfCall(arg, p.firstMethod[arg] + sub);
                    break;
                default:
                    askOfObjects(op, arg, sub);
                    break;
            }
        }

        private void askOfObjects(int op, int arg, int sub) {
            switch (op) {
                case NEW:
                    give(T_CLASS + arg);
                    break;
                case GET:
                    want(T_CLASS + arg);
                    give(p.typeOfField(arg, sub));
                    break;
                case PUT:
                    want(T_CLASS + arg);
                    want(p.typeOfField(arg, sub));
                    break;
                case READ:
                    give(p.typeOfField(arg, sub));
                    break;
                case WRITE:
                    want(p.typeOfField(arg, sub));
                    break;
                case CAST:
                    want(W_REF);
                    give(T_CLASS + arg);
                    break;
                case IS:
                    want(W_REF);
                    give(T_INT);
                    break;
                default:
                    break;
            }
        }

        private void askOfCall(int c, int called) {
            if (p.receivers(called) == 1) {
                want(T_CLASS + c);
            }
            for (int k = 0; k < p.params[called]; k++) {
                want(p.typeOfParam(called, k));
            }
            if (p.result[called] != 0) {
                give(p.typeOfResult(called));
            }
        }

        private void want(int type) {
            if (wanted < wants.length) {
                wants[wanted] = type;
                wanted++;
            }
        }

        private void give(int type) {
            gift = type;
            gifts = 1;
        }

        private int takeWanted(int op) {
            if (now < wanted) {
                return 3;
            }
            now -= wanted;
            for (int k = wanted - 1; k >= 0; k--) {
                if (!fits(nowStack[now + k], wants[k])) {
                    return 4;
                }
            }
            if (op == LOAD && gift == T_UNSET) {
                return 4;
            }
            if (op == STORE || op == DUP) {
                gift = nowStack[now];
                gifts = op == DUP ? 2 : 0;
            }
            return now + gifts > MAX_STACK ? 5 : 0;
        }

        private boolean fits(int type, int want) {
            if (want == W_SOME) {
                return true;
            }
            if (want == W_REF) {
                return type != T_INT;
            }
            if (want == T_INT || type < T_CLASS) {
                return type == want || want >= T_CLASS && type == T_NULL;
            }
            return p.covers(want - T_CLASS, type - T_CLASS);
        }

        /** The state as it is now comes to instruction i. */
        private int goTo(int i) {
            if (i < 0 || i >= MAX_CODE) {
                return 7;
            }
            int stackAt = i * MAX_STACK;
            int localAt = i * MAX_LOCALS;
            if (heights[i] < 0) {
                heights[i] = now;
                System.arraycopy(nowStack, 0, stacks, stackAt, now);
                System.arraycopy(nowLocals, 0, locals, localAt, p.locals[m]);
                changed = true;
                return 0;
            }
            if (heights[i] != now) {
                return 6;
            }
            for (int k = 0; k < now; k++) {
                if (stacks[stackAt + k] == T_INT != (nowStack[k] == T_INT)) {
                    return 6;
                }
            }
            meetAll(stacks, stackAt, nowStack, now);
            meetAll(locals, localAt, nowLocals, p.locals[m]);
            return 0;
        }

        private void meetAll(int[] row, int from, int[] others, int count) {
            for (int k = 0; k < count; k++) {
                int met = meet(row[from + k], others[k]);
                if (met != row[from + k]) {
                    row[from + k] = met;
                    changed = true;
                }
            }
        }

        private int meet(int a, int b) {
            if (a == b) {
                return a;
            }
            if (a <= T_INT || b <= T_INT) {
                return T_UNSET;
            }
            if (a == T_NULL || b == T_NULL) {
                return a == T_NULL ? b : a;
            }
            if (a == T_ANY || b == T_ANY) {
                return T_ANY;
            }
            int x = a - T_CLASS;
            for (int n = 0; n < MAX_CLASSES && x >= 0; n++) {
                if (p.covers(x, b - T_CLASS)) {
                    return T_CLASS + x;
                }
                x = p.superOf[x];
            }
            return T_ANY;
        }
    }

    /** REACHED METHODS and LIVE CLASSES. */
    private static final class Reach {
        final int[] reached = new int[ALL_METHODS];
        final int[] live = new int[MAX_CLASSES];
        /** For each CLASS, the METHOD that its objects take for a SEND of each METHOD. */
        private final int[] means = new int[MAX_CLASSES * ALL_METHODS];
        private Program p = null;
        private boolean changed = false;

        /** The code may be another one than the program's own, by the same numbers. */
        void find(Program program, Code code, int[] entries, int entryCount) {
            p = program;
            findMeans();
            Arrays.fill(reached, 0);
            Arrays.fill(live, 0);
            for (int e = 0; e < entryCount; e++) {
                reached[entries[e]] = 1;
            }
            changed = true;
            for (int round = 0; round < MANY && changed; round++) {
                changed = false;
                for (int m = 0; m < p.methods; m++) {
                    if (reached[m] == 1) {
                        goThrough(code, m);
                    }
                }
            }
        }

        private void findMeans() {
            for (int d = 0; d < p.classes; d++) {
                for (int m = 0; m < p.methods; m++) {
                    means[d * ALL_METHODS + m] = p.covers(p.owner[m], d) ? p.meaning(d, m) : NONE;
                }
            }
        }

        private void goThrough(Code code, int m) {
            int from = m * MAX_CODE;
            for (int spot = from; spot < from + code.length[m]; spot++) {
                if (code.height[spot] < 0) {
                    continue;
                }
                int arg = code.arg[spot];
                switch (code.op[spot]) {
                    case NEW:
                        mark(live, arg);
                        break;
                    case CALL:
                        mark(reached, p.firstMethod[arg] + code.sub[spot]);
                        break;
                    case SEND:
                        markMeanings(p.firstMethod[arg] + code.sub[spot]);
                        break;
                    default:
                        break;
                }
            }
        }

        private void mark(int[] row, int at) {
            if (row[at] == 0) {
                row[at] = 1;
                changed = true;
            }
        }

        private void markMeanings(int toldMethod) {
            for (int d = 0; d < p.classes; d++) {
                int found = means[d * ALL_METHODS + toldMethod];
                if (live[d] == 1 && found != NONE) {
                    mark(reached, found);
                }
            }
        }

        /** The METHOD to which a SEND is bound, NONE if it is not. */
        int boundTo(int toldMethod) {
            int only = NONE;
            for (int d = 0; d < p.classes; d++) {
                int found = means[d * ALL_METHODS + toldMethod];
                if (live[d] == 1 && found != NONE) {
                    if (only != NONE && only != found) {
                        return NONE;
                    }
                    only = found;
                }
            }
            return only != NONE && p.covers(p.owner[only], p.owner[toldMethod]) ? only : NONE;
        }
    }

    /** The code of one METHOD while it is changed, with the ORIGIN of each instruction. */
    private static final class Strip {
        int count = 0;
        int locals = 0;
        final int[] op = new int[MAX_CODE];
        final int[] arg = new int[MAX_CODE];
        final int[] sub = new int[MAX_CODE];
        final int[] near = new int[MAX_CODE];
        final int[] far = new int[MAX_CODE];
        private final int[] seen = new int[MAX_CODE];
        private final int[] queue = new int[MAX_CODE];
        private int queued = 0;
        /** How many jumps go to an instruction. */
        private final int[] aimed = new int[MAX_CODE];
        private final int[] loaded = new int[MAX_LOCALS];

        void begin(int localCount) {
            count = 0;
            locals = localCount;
        }

        void add(int newOp, int newArg, int newSub, int newNear, int newFar) {
            if (count < MAX_CODE) {
                op[count] = newOp;
                arg[count] = newArg;
                sub[count] = newSub;
                near[count] = newNear;
                far[count] = newFar;
                count++;
            }
        }

        /** Jumps that told old places go to where these begin now. */
        void aimAnew(int[] starts) {
            for (int i = 0; i < count; i++) {
                if (isJump(op[i])) {
                    arg[i] = starts[arg[i]];
                }
            }
        }

        /** Does the RULES until none fits; counts[10 + r] and counts[2] say how often. */
        void fold(int[] counts) {
            int i = 0;
            for (int n = 0; n < MANY && i != NONE; n++) {
                survey();
                i = firstFit();
                if (i != NONE) {
                    int rule = ruleAt(i);
                    counts[2]++;
                    counts[10 + rule]++;
                    apply(rule, i);
                }
            }
        }

        private int firstFit() {
            for (int i = 0; i < count; i++) {
                if (ruleAt(i) != 0) {
                    return i;
                }
            }
            return NONE;
        }

        private void survey() {
            Arrays.fill(seen, 0);
            Arrays.fill(aimed, 0);
            Arrays.fill(loaded, 0);
            for (int i = 0; i < count; i++) {
                if (isJump(op[i]) && isPlace(arg[i])) {
                    aimed[arg[i]]++;
                }
                if (op[i] == LOAD) {
                    loaded[arg[i]]++;
                }
            }
            queued = 0;
            meetFirst(0);
            for (int n = 0; n < queued && n < MAX_CODE; n++) {
                int i = queue[n];
                if (goesOn(op[i])) {
                    meetFirst(i + 1);
                }
                if (isJump(op[i])) {
                    meetFirst(arg[i]);
                }
            }
        }

        private boolean isPlace(int i) {
            return i >= 0 && i < count;
        }

        private void meetFirst(int i) {
            if (isPlace(i) && seen[i] == 0) {
                seen[i] = 1;
                queue[queued] = i;
                queued++;
            }
        }

        /** The least RULE that fits at i, 0 if none does. */
        private int ruleAt(int i) {
            if (seen[i] == 0) {
                return 1;
            }
            int first = op[i];
            if (first == JUMP && arg[i] == i + 1) {
                return 2;
            }
            if (isJump(first) && lead(i) != NONE) {
                return 3;
            }
            int second = isPlace(i + 1) && aimed[i + 1] == 0 ? op[i + 1] : NONE;
            switch (first) {
                case INT:
                    return ruleOfInt(i, second);
                case NULL:
                    return second == POP ? 5 : second == IF_NULL ? 8 : 0;
                case LOAD:
                    return second == POP ? 5 : second == STORE && arg[i] == arg[i + 1] ? 11 : 0;
                case DUP:
                    return second == POP ? 5 : 0;
                case STORE:
                    return loaded[arg[i]] == 0 ? 10 : 0;
                case ZERO:
                case IF_NULL:
                    return arg[i] == i + 1 ? 12 : 0;
                default:
                    return 0;
            }
        }

        private int ruleOfInt(int i, int second) {
            int third = second == INT && isPlace(i + 2) && aimed[i + 2] == 0 ? op[i + 2] : NONE;
            if (third >= ADD && third <= REM && (third <= MUL || arg[i + 1] != 0)) {
                return 4;
            }
            if (second == POP) {
                return 5;
            }
            if (second == ZERO) {
                return 6;
            }
            if (third == LESS) {
                return 7;
            }
            boolean nothingAdded = arg[i] == 0 && (second == ADD || second == SUB);
            boolean oneTimes = arg[i] == 1 && (second == MUL || second == DIV);
            return nothingAdded || oneTimes ? 9 : 0;
        }

        /** Where a jump to a JUMP leads; NONE if it goes to no JUMP, or round without end. */
        private int lead(int i) {
            int at = arg[i];
            if (!isPlace(at) || op[at] != JUMP) {
                return NONE;
            }
            for (int n = 0; n < count && isPlace(at) && op[at] == JUMP; n++) {
                at = arg[at];
            }
            return isPlace(at) && op[at] != JUMP ? at : NONE;
        }

        private void apply(int rule, int i) {
            switch (rule) {
                case 1:
                case 2:
                    cut(i, 1);
                    break;
                case 3:
                    arg[i] = lead(i);
                    break;
                case 4:
                    become(i, INT, calculate(op[i + 2], arg[i], arg[i + 1]), i + 2);
                    break;
                case 6:
                case 7:
                case 8:
                    decide(rule, i);
                    break;
                case 10:
                case 12:
                    become(i, POP, 0, i);
                    break;
                default:
                    cut(i, 2);
                    break;
            }
        }

        /** A jump with what is known ahead of it, of which it takes two numbers by RULE 7 and one by the others. */
        private void decide(int rule, int i) {
            int last = rule == 7 ? i + 2 : i + 1;
            boolean jumps = rule == 8 || (rule == 7 ? arg[i] < arg[i + 1] : arg[i] == 0);
            if (jumps) {
                become(i, JUMP, arg[last], last);
            } else {
                cut(i, last - i + 1);
            }
        }

        /** All from first to last become one, with the last one's ORIGIN. */
        private void become(int first, int newOp, int newArg, int last) {
            op[first] = newOp;
            arg[first] = newArg;
            sub[first] = 0;
            near[first] = near[last];
            far[first] = far[last];
            cut(first + 1, last - first);
        }

        private void cut(int from, int many) {
            if (many <= 0 || from < 0 || from + many > count) {
                return;
            }
            int rest = count - from - many;
            System.arraycopy(op, from + many, op, from, rest);
            System.arraycopy(arg, from + many, arg, from, rest);
            System.arraycopy(sub, from + many, sub, from, rest);
            System.arraycopy(near, from + many, near, from, rest);
            System.arraycopy(far, from + many, far, from, rest);
            count -= many;
            for (int i = 0; i < count; i++) {
                if (isJump(op[i]) && arg[i] > from) {
                    arg[i] = Math.max(from, arg[i] - many);
                }
            }
        }
    }

    /** Makes the small program. */
    private static final class Shrinker {
        /** New numbers (a METHOD's among all of them), NONE for what is not KEPT. */
        final int[] newClass = new int[MAX_CLASSES];
        final int[] newField = new int[ALL_FIELDS];
        final int[] newMethod = new int[ALL_METHODS];
        /** ORIGIN of each instruction of the small program. */
        final int[] near = new int[ALL_CODE];
        final int[] far = new int[ALL_CODE];
        /** By the numbers that made() takes. */
        final int[] counts = new int[11 + RULES];
        final Writer writer = new Writer();
        private final Reach reach = new Reach();
        private final Strip strip = new Strip();
        private final int[] starts = new int[MAX_CODE];
        /** LOCALS, by old numbers, with those of what was put in. */
        private final int[] grown = new int[ALL_METHODS];
        private final int[] newName = new int[ALL_METHODS];
        private Program old = null;
        private Program small = null;
        private int budget = 0;

        void makeSmall(Program from, Program into, int[] entries, int entryCount, int leafBudget) {
            old = from;
            small = into;
            budget = leafBudget;
            Arrays.fill(counts, 0);
            reach.find(old, old.code, entries, entryCount);
            for (int m = 0; m < old.methods; m++) {
                small.code.length[m] = 0;
                if (reach.reached[m] == 1) {
                    gather(m);
                    strip.fold(counts);
                    lay(m);
                }
            }
            reach.find(old, small.code, entries, entryCount);
            markAll();
            number();
            nameMethods();
            writeClasses();
            moveCodes();
            writer.write(small);
        }

        /** The METHOD's code comes to the strip, with SENDS bound and LEAVES put in. */
        private void gather(int m) {
            strip.begin(old.locals[m]);
            int from = m * MAX_CODE;
            int total = old.code.length[m];
            for (int i = 0; i < old.code.length[m]; i++) {
                starts[i] = strip.count;
                int spot = from + i;
                int op = old.code.op[spot];
                int arg = old.code.arg[spot];
                int sub = old.code.sub[spot];
                boolean met = old.code.height[spot] >= 0;
                if (met && op == CALL && canPutIn(old.firstMethod[arg] + sub, old.code.height[spot], total)) {
                    int leaf = old.firstMethod[arg] + sub;
                    putIn(leaf, m * PLACE + i);
                    total += growth(leaf);
                    continue;
                }
                int bound = met && op == SEND ? reach.boundTo(old.firstMethod[arg] + sub) : NONE;
                if (bound != NONE) {
                    op = CALL;
                    arg = old.owner[bound];
                    sub = bound - old.firstMethod[arg];
                    counts[0]++;
                }
                strip.add(op, arg, sub, m * PLACE + i, NONE);
            }
            strip.aimAnew(starts);
        }

        /** How many instructions there are more if the LEAF, but for its RETURN, stands for its CALL. */
        private int growth(int leaf) {
            return old.params[leaf] + old.code.length[leaf] - 2;
        }

        private boolean canPutIn(int called, int height, int total) {
            if (!isLeaf(called)) {
                return false;
            }
            int under = height - old.params[called];
            return strip.locals + old.locals[called] <= MAX_LOCALS
                    && total + growth(called) <= MAX_CODE
                    && under + highest(called) <= MAX_STACK;
        }

        private boolean isLeaf(int m) {
            int count = old.code.length[m];
            if (old.methodStatic[m] == 0 || count < 1 || count > budget) {
                return false;
            }
            int last = m * MAX_CODE + count - 1;
            for (int spot = m * MAX_CODE; spot < last; spot++) {
                if (!isPlain(old.code.op[spot])) {
                    return false;
                }
            }
            int due = old.result[m] == 0 ? 0 : 1;
            return old.code.op[last] == RETURN && old.code.height[last] == due;
        }

        private boolean isPlain(int op) {
            return op <= REM || op >= NEW && op <= WRITE || op >= OUT && op <= IS;
        }

        private int highest(int leaf) {
            int most = 0;
            int from = leaf * MAX_CODE;
            for (int spot = from; spot < from + old.code.length[leaf]; spot++) {
                most = Math.max(most, old.code.height[spot]);
            }
            return most;
        }

        private void putIn(int leaf, int callPlace) {
            int shift = strip.locals;
            for (int k = old.params[leaf] - 1; k >= 0; k--) {
                strip.add(STORE, shift + k, 0, callPlace, NONE);
            }
            for (int j = 0; j < old.code.length[leaf] - 1; j++) {
                int spot = leaf * MAX_CODE + j;
                int op = old.code.op[spot];
                int more = TELLS[op] == TELLS_LOCAL ? shift : 0;
                strip.add(op, old.code.arg[spot] + more, old.code.sub[spot], leaf * PLACE + j, callPlace);
            }
            strip.locals += old.locals[leaf];
            counts[1]++;
        }

        /** The strip's code comes to the small program, at the METHOD's old number still. */
        private void lay(int m) {
            int from = m * MAX_CODE;
            System.arraycopy(strip.op, 0, small.code.op, from, strip.count);
            System.arraycopy(strip.arg, 0, small.code.arg, from, strip.count);
            System.arraycopy(strip.sub, 0, small.code.sub, from, strip.count);
            System.arraycopy(strip.near, 0, near, from, strip.count);
            System.arraycopy(strip.far, 0, far, from, strip.count);
            // All of it is reached; the true heights are found when it becomes the program.
            Arrays.fill(small.code.height, from, from + strip.count, 0);
            small.code.length[m] = strip.count;
            grown[m] = strip.locals;
        }

        /** Marks with 0 what is KEPT, by old numbers. */
        private void markAll() {
            Arrays.fill(newClass, NONE);
            Arrays.fill(newField, NONE);
            Arrays.fill(newMethod, NONE);
            for (int m = 0; m < old.methods; m++) {
                if (reach.reached[m] == 1) {
                    newMethod[m] = 0;
                    markTold(m);
                }
            }
            for (int c = 0; c < old.classes; c++) {
                markMembers(c);
            }
            for (int c = old.classes - 1; c >= 0; c--) {
                if (newClass[c] == 0 && old.superOf[c] >= 0) {
                    newClass[old.superOf[c]] = 0;
                }
            }
        }

        private void markTold(int m) {
            int from = m * MAX_CODE;
            for (int spot = from; spot < from + small.code.length[m]; spot++) {
                int op = small.code.op[spot];
                int arg = small.code.arg[spot];
                if (op == CAST || op == IS) {
                    newClass[arg] = 0;
                } else if (op == SEND) {
                    newMethod[old.firstMethod[arg] + small.code.sub[spot]] = 0;
                } else if (TELLS[op] == TELLS_FIELD) {
                    newField[arg * MAX_FIELDS + small.code.sub[spot]] = 0;
                }
            }
        }

        private void markMembers(int c) {
            if (reach.live[c] == 1) {
                newClass[c] = 0;
            }
            for (int k = 0; k < old.fieldCount[c]; k++) {
                int field = c * MAX_FIELDS + k;
                if (newField[field] == 0) {
                    newClass[c] = 0;
                    markType(old.fieldType[field]);
                }
            }
            for (int k = 0; k < old.methodCount[c]; k++) {
                int m = old.firstMethod[c] + k;
                if (newMethod[m] == 0) {
                    newClass[c] = 0;
                    markFace(m);
                }
            }
        }

        private void markFace(int m) {
            if (old.result[m] != 0) {
                markType(old.result[m] - 1);
            }
            for (int k = 0; k < old.params[m]; k++) {
                markType(old.paramType[m * MAX_PARAMS + k]);
            }
        }

        private void markType(int written) {
            if (written > 0) {
                newClass[written - 1] = 0;
            }
        }

        private void number() {
            int classes = 0;
            int methods = 0;
            for (int c = 0; c < old.classes; c++) {
                if (newClass[c] == 0) {
                    newClass[c] = classes;
                    classes++;
                }
                int fields = 0;
                for (int field = c * MAX_FIELDS; field < c * MAX_FIELDS + old.fieldCount[c]; field++) {
                    if (newField[field] == 0) {
                        newField[field] = fields;
                        fields++;
                    }
                }
            }
            for (int m = 0; m < old.methods; m++) {
                if (newMethod[m] == 0) {
                    newMethod[m] = methods;
                    methods++;
                }
            }
            small.classes = classes;
            small.methods = methods;
        }

        private void nameMethods() {
            for (int m = 0; m < old.methods; m++) {
                if (newMethod[m] != NONE) {
                    int above = nearestAbove(m);
                    newName[m] = above == NONE ? leastFree(m) : newName[above];
                }
            }
        }

        private int nearestAbove(int m) {
            int x = old.superOf[old.owner[m]];
            for (int n = 0; n < MAX_CLASSES && x >= 0; n++) {
                int found = old.named(x, old.methodName[m]);
                if (found != NONE && newMethod[found] != NONE) {
                    return found;
                }
                x = old.superOf[x];
            }
            return NONE;
        }

        private int leastFree(int m) {
            int name = 1;
            for (int n = 0; n < ALL_METHODS && isTaken(m, name); n++) {
                name++;
            }
            return name;
        }

        /** Whether a METHOD named ahead of m, in its CLASS or one above, has that name. */
        private boolean isTaken(int m, int name) {
            for (int other = 0; other < m; other++) {
                if (newMethod[other] != NONE && newName[other] == name
                        && old.covers(old.owner[other], old.owner[m])) {
                    return true;
                }
            }
            return false;
        }

        /** CLASSES, FIELDS and the faces of METHODS, all of them told by the old program. */
        private void writeClasses() {
            int methods = 0;
            for (int c = 0; c < old.classes; c++) {
                int now = newClass[c];
                if (now == NONE) {
                    continue;
                }
                int above = old.superOf[c];
                small.className[now] = now + 1;
                small.superOf[now] = above < 0 ? NONE : newClass[above];
                small.depth[now] = old.depth[c];
                small.fieldCount[now] = writeFields(c, now);
                small.firstMethod[now] = methods;
                for (int k = 0; k < old.methodCount[c]; k++) {
                    if (newMethod[old.firstMethod[c] + k] != NONE) {
                        writeFace(old.firstMethod[c] + k, now);
                        methods++;
                    }
                }
                small.methodCount[now] = methods - small.firstMethod[now];
            }
        }

        private int writeFields(int c, int now) {
            int fields = 0;
            for (int k = 0; k < old.fieldCount[c]; k++) {
                int from = c * MAX_FIELDS + k;
                if (newField[from] != NONE) {
                    int to = now * MAX_FIELDS + newField[from];
                    small.fieldName[to] = newField[from] + 1;
                    small.fieldType[to] = typeAnew(old.fieldType[from]);
                    small.fieldStatic[to] = old.fieldStatic[from];
                    fields++;
                }
            }
            return fields;
        }

        private int typeAnew(int written) {
            return written <= 0 ? written : newClass[written - 1] + 1;
        }

        private void writeFace(int m, int now) {
            int to = newMethod[m];
            small.owner[to] = now;
            small.methodName[to] = newName[m];
            small.methodStatic[to] = old.methodStatic[m];
            small.result[to] = typeAnew(old.result[m] - 1) + 1;
            small.params[to] = old.params[m];
            for (int k = 0; k < old.params[m]; k++) {
                small.paramType[to * MAX_PARAMS + k] = typeAnew(old.paramType[m * MAX_PARAMS + k]);
            }
            small.locals[to] = reach.reached[m] == 1 ? grown[m] : old.params[m] + old.receivers(m);
        }

        /** A new number is never above the old one, so each code can go down to its place in the same rows. */
        private void moveCodes() {
            for (int m = 0; m < old.methods; m++) {
                if (newMethod[m] == NONE) {
                    continue;
                }
                if (reach.reached[m] == 1) {
                    moveCode(m, newMethod[m]);
                } else {
                    makeShell(newMethod[m]);
                }
            }
        }

        private void makeShell(int to) {
            int spot = to * MAX_CODE;
            small.code.length[to] = 1;
            small.code.op[spot] = TRAP;
            small.code.arg[spot] = 0;
            small.code.sub[spot] = 0;
            near[spot] = NONE;
            far[spot] = NONE;
            counts[3]++;
        }

        private void moveCode(int m, int to) {
            int count = small.code.length[m];
            for (int i = 0; i < count; i++) {
                int from = m * MAX_CODE + i;
                int spot = to * MAX_CODE + i;
                int op = small.code.op[from];
                int arg = small.code.arg[from];
                int sub = small.code.sub[from];
                if (TELLS[op] == TELLS_FIELD) {
                    sub = newField[arg * MAX_FIELDS + sub];
                } else if (TELLS[op] == TELLS_METHOD) {
                    sub = newMethod[old.firstMethod[arg] + sub] - small.firstMethod[newClass[arg]];
                }
                small.code.op[spot] = op;
                small.code.arg[spot] = TELLS[op] >= TELLS_CLASS ? newClass[arg] : arg;
                small.code.sub[spot] = sub;
                near[spot] = near[from];
                far[spot] = far[from];
            }
            small.code.length[to] = count;
        }
    }

    /** Writes a program as a container. */
    private static final class Writer {
        final byte[] row = new byte[CONTAINER_BYTES];
        int length = 0;

        void write(Program p) {
            length = 0;
            put(83);
            put(72);
            put(p.classes);
            for (int c = 0; c < p.classes; c++) {
                writeClass(p, c);
            }
        }

        private void put(int value) {
            if (length < row.length) {
                row[length] = (byte) value;
                length++;
            }
        }

        private void writeClass(Program p, int c) {
            put(p.className[c]);
            put(p.superOf[c] + 1);
            put(p.fieldCount[c]);
            for (int k = 0; k < p.fieldCount[c]; k++) {
                put(p.fieldName[c * MAX_FIELDS + k]);
                put(p.fieldType[c * MAX_FIELDS + k]);
                put(p.fieldStatic[c * MAX_FIELDS + k]);
            }
            put(p.methodCount[c]);
            for (int k = 0; k < p.methodCount[c]; k++) {
                writeMethod(p, p.firstMethod[c] + k);
            }
        }

        private void writeMethod(Program p, int m) {
            put(p.methodName[m]);
            put(p.methodStatic[m]);
            put(p.result[m]);
            put(p.params[m]);
            for (int k = 0; k < p.params[m]; k++) {
                put(p.paramType[m * MAX_PARAMS + k]);
            }
            put(p.locals[m]);
            put(p.code.length[m]);
            int from = m * MAX_CODE;
            for (int spot = from; spot < from + p.code.length[m]; spot++) {
                writeInstruction(p.code.op[spot], p.code.arg[spot], p.code.sub[spot]);
            }
        }

        private void writeInstruction(int op, int arg, int sub) {
            put(op);
            int tells = TELLS[op];
            if (tells == TELLS_NUMBER) {
                put(arg >> 24);
                put(arg >> 16);
                put(arg >> 8);
            }
            if (tells != TELLS_NOTHING) {
                put(arg);
            }
            if (tells == TELLS_FIELD || tells == TELLS_METHOD) {
                put(sub);
            }
        }
    }

    /** Runs a program; NULL is 0 in its cells, and object k is k + 1. */
    private static final class Machine {
        private static final int CELLS = MAX_LOCALS + MAX_STACK;
        boolean ran = false;
        /** By the numbers that result() takes. */
        final int[] told = new int[8];
        final int[] output = new int[MAX_OUTPUT];
        final int[] traced = new int[MAX_FRAMES];
        final int[] toldBack = new int[MAX_FRAMES * 2];
        private Program p = null;
        private int state = GOING;
        private int frames = 0;
        private final int[] frameMethod = new int[MAX_FRAMES];
        private final int[] framePlace = new int[MAX_FRAMES];
        private final int[] frameHeight = new int[MAX_FRAMES];
        /** Of each frame its LOCALS, then its stack. */
        private final int[] cells = new int[MAX_FRAMES * CELLS];
        private int objects = 0;
        private final int[] objectClass = new int[MAX_OBJECTS];
        private final int[] slots = new int[MAX_OBJECTS * ALL_FIELDS];
        private final int[] statics = new int[ALL_FIELDS];

        void forget() {
            ran = false;
        }

        /** How it ended. */
        int go(Program program, int first, int steps) {
            p = program;
            ran = true;
            state = GOING;
            frames = 0;
            objects = 0;
            Arrays.fill(told, 0);
            Arrays.fill(statics, 0);
            pushFrame(first);
            int taken = 0;
            for (int n = 0; n < steps && state == GOING; n++) {
                taken++;
                step();
            }
            told[0] = state == GOING ? CUT : state;
            told[1] = taken;
            told[5] = objects;
            if (state == TRAPPED) {
                takeTrace();
            }
            return told[0];
        }

        private void takeTrace() {
            told[4] = frames;
            for (int k = 0; k < frames; k++) {
                int f = frames - 1 - k;
                traced[k] = frameMethod[f] * PLACE + framePlace[f];
            }
        }

        /** Writes the TRACE as the program has it: by ORIGINS, if the small one was run. */
        void tellBack(boolean small, int[] near, int[] far) {
            told[7] = 0;
            for (int k = 0; k < told[4]; k++) {
                if (!small) {
                    addBack(traced[k]);
                    continue;
                }
                int spot = traced[k] / PLACE * MAX_CODE + traced[k] % PLACE;
                addBack(near[spot]);
                addBack(far[spot]);
            }
        }

        private void addBack(int place) {
            if (place != NONE && told[7] < toldBack.length) {
                toldBack[told[7]] = place;
                told[7]++;
            }
        }

        private void pushFrame(int m) {
            frameMethod[frames] = m;
            framePlace[frames] = 0;
            frameHeight[frames] = 0;
            frames++;
            told[6] = Math.max(told[6], frames);
        }

        private void trap(int number) {
            state = TRAPPED;
            told[2] = number;
        }

        private void push(int value) {
            int f = frames - 1;
            if (f >= 0 && frameHeight[f] < MAX_STACK) {
                cells[f * CELLS + MAX_LOCALS + frameHeight[f]] = value;
                frameHeight[f]++;
            }
        }

        private int pop() {
            int f = frames - 1;
            if (f < 0 || frameHeight[f] <= 0) {
                return 0;
            }
            frameHeight[f]--;
            return cells[f * CELLS + MAX_LOCALS + frameHeight[f]];
        }

        private void step() {
            int f = frames - 1;
            if (f < 0 || !p.hasInstruction(frameMethod[f], framePlace[f])) {
                state = ENDED;
                return;
            }
            int spot = frameMethod[f] * MAX_CODE + framePlace[f];
            int op = p.code.op[spot];
            int arg = p.code.arg[spot];
            int sub = p.code.sub[spot];
            if (isJump(op)) {
                framePlace[f] = jumps(op) ? arg : framePlace[f] + 1;
                return;
            }
            if (op == CALL || op == SEND) {
                enter(op, p.firstMethod[arg] + sub);
                return;
            }
            if (op == RETURN) {
                leave();
                return;
            }
            if (op >= ADD && op <= REM) {
                reckon(op);
            } else if (op >= GET && op <= WRITE) {
                useField(op, arg, sub);
            } else {
                doPlain(op, arg, f * CELLS);
            }
            if (state == GOING) {
                framePlace[f]++;
            }
        }

        private boolean jumps(int op) {
            if (op == JUMP) {
                return true;
            }
            int last = pop();
            return op == LESS ? pop() < last : last == 0;
        }

        private void reckon(int op) {
            int b = pop();
            int a = pop();
            if (b == 0 && (op == DIV || op == REM)) {
                trap(2);
            } else {
                push(calculate(op, a, b));
            }
        }

        private void doPlain(int op, int arg, int locals) {
            switch (op) {
                case INT:
                    push(arg);
                    break;
                case NULL:
                    push(0);
                    break;
                case LOAD:
                    push(cells[locals + arg]);
                    break;
                case STORE:
                    cells[locals + arg] = pop();
                    break;
                case POP:
                    pop();
                    break;
                case DUP:
                    int top = pop();
                    push(top);
                    push(top);
                    break;
                case NEW:
                    makeObject(arg);
                    break;
                case OUT:
                    putOut(pop());
                    break;
                case CAST:
                    cast(arg, pop());
                    break;
                case IS:
                    push(isOf(arg, pop()) ? 1 : 0);
                    break;
                default:
                    trap(4);
                    break;
            }
        }

        private void putOut(int value) {
            if (told[3] < MAX_OUTPUT) {
                output[told[3]] = value;
            }
            told[3]++;
        }

        private void makeObject(int c) {
            if (objects >= MAX_OBJECTS) {
                trap(6);
                return;
            }
            objectClass[objects] = c;
            int from = objects * ALL_FIELDS;
            Arrays.fill(slots, from, from + ALL_FIELDS, 0);
            objects++;
            push(objects);
        }

        private boolean isObject(int ref) {
            return ref > 0 && ref <= objects;
        }

        private boolean isOf(int c, int ref) {
            return isObject(ref) && p.covers(c, objectClass[ref - 1]);
        }

        private void cast(int c, int ref) {
            if (ref == 0 || isOf(c, ref)) {
                push(ref);
            } else {
                trap(3);
            }
        }

        private void useField(int op, int c, int k) {
            if (op == READ) {
                push(statics[c * MAX_FIELDS + k]);
                return;
            }
            if (op == WRITE) {
                statics[c * MAX_FIELDS + k] = pop();
                return;
            }
            int value = op == PUT ? pop() : 0;
            int ref = pop();
            if (!isObject(ref)) {
                trap(1);
                return;
            }
            int slot = (ref - 1) * ALL_FIELDS + p.depth[c] * MAX_FIELDS + k;
            if (op == PUT) {
                slots[slot] = value;
            } else {
                push(slots[slot]);
            }
        }

        private void enter(int op, int toldMethod) {
            int f = frames - 1;
            int taken = p.params[toldMethod] + p.receivers(toldMethod);
            int from = frameHeight[f] - taken;
            int m = toldMethod;
            if (p.receivers(toldMethod) == 1) {
                int ref = from >= 0 ? cells[f * CELLS + MAX_LOCALS + from] : 0;
                if (!isObject(ref)) {
                    trap(1);
                    return;
                }
                m = op == SEND ? p.meaning(objectClass[ref - 1], toldMethod) : toldMethod;
            }
            if (frames >= MAX_FRAMES || m == NONE || from < 0) {
                trap(5);
                return;
            }
            frameHeight[f] = from;
            System.arraycopy(cells, f * CELLS + MAX_LOCALS + from, cells, frames * CELLS, taken);
            pushFrame(m);
        }

        private void leave() {
            boolean gives = p.result[frameMethod[frames - 1]] != 0;
            int value = gives ? pop() : 0;
            if (frames == 1) {
                state = ENDED;
                return;
            }
            frames--;
            if (gives) {
                push(value);
            }
            framePlace[frames - 1]++;
        }
    }
}
