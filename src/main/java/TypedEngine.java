/**
 * A small engine for typed code on a stack: it reads an image of classes and methods,
 * verifies each method, and runs verified ones step by step.
 */
public final class TypedEngine {
    private static final int DRAFT_MOST = 400;
    private static final int STEPS_MOST = 500;

    private final int[] drafted;
    private int draftSize;
    private Image image;
    // A draft is read into the spare, so that one that is refused leaves the image alone.
    private Image spare;
    private final Reader reader;
    private final Verifier verifier;
    private final Run run;

    public TypedEngine() {
        drafted = new int[DRAFT_MOST];
        draftSize = 0;
        Image empty = new Image();
        image = empty;
        spare = new Image();
        reader = new Reader();
        verifier = new Verifier(empty);
        run = new Run(empty);
    }

    public boolean draft(long v, int n) {
        if (n < 1 || n > 8 || draftSize + n > DRAFT_MOST) {
            return false;
        }
        for (int i = 0; i < n; i++) {
            drafted[draftSize] = (int) ((v >>> (8 * i)) & 255L);
            draftSize++;
        }
        return true;
    }

    public void clear() {
        draftSize = 0;
    }

    public int load() {
        if (!reader.readInto(spare, drafted, draftSize)) {
            return -1;
        }
        Image read = spare;
        spare = image;
        image = read;
        for (int m = 0; m < image.methodCount; m++) {
            verifier.verify(image, image.methods[m]);
        }
        run.drop();
        return image.methodCount;
    }

    public boolean verified(int m) {
        return image.verifiedMethod(m) != null;
    }

    public int depth(int m, int p) {
        Method method = image.verifiedMethod(m);
        if (method == null) {
            return -2;
        }
        int row = method.rowAt(p);
        return row == Row.NONE ? -1 : Row.size(row);
    }

    public int type(int m, int p, int i) {
        Method method = image.verifiedMethod(m);
        if (method == null) {
            return 0;
        }
        int row = method.rowAt(p);
        return row == Row.NONE ? 0 : Row.typeAt(row, i);
    }

    public boolean start(int m, int a, int b) {
        Method method = image.verifiedMethod(m);
        if (method == null || !method.takesNumbersAlone() || !image.callsVerifiedAlone(m)) {
            return false;
        }
        run.begin(image, m, a, b);
        return true;
    }

    public int step(int n) {
        if (run.phase == Run.NO_RUN || n < 0 || n > STEPS_MOST) {
            return -1;
        }
        int count = 0;
        while (count < n && run.phase == Run.GOES_ON) {
            run.doInstruction();
            count++;
        }
        return count;
    }

    public int state() {
        return run.phase;
    }

    public int result() {
        return run.outcome;
    }

    public int look(int what) {
        if (what == 4) {
            return run.phase == Run.NO_RUN ? -1 : run.made;
        }
        if (run.phase != Run.GOES_ON) {
            return -1;
        }
        Frame frame = run.latest();
        switch (what) {
            case 0:
                return frame.number;
            case 1:
                return frame.place;
            case 2:
                return run.active;
            case 3:
                return frame.height;
            default:
                return -1;
        }
    }

    public int peek(int i) {
        if (run.phase != Run.GOES_ON) {
            return 0;
        }
        Frame frame = run.latest();
        int row = frame.method.rowAt(frame.place);
        return Row.typeAt(row, i) == Type.NUMBER ? (int) frame.valueAt(i) : 0;
    }

    public int entered(int m, int r) {
        if (run.phase == Run.NO_RUN || image.method(m) == null) {
            return 0;
        }
        return run.entriesOf(m, r);
    }

    /** The numbers of the types. */
    private static final class Type {
        static final int NOTHING = 0;
        static final int NUMBER = 1;
        static final int PAIR = 2;
        static final int PLACE = 3;
        static final int ARRAY = 4;
        static final int BOX = 5;
        static final int OBJECT = 8;
    }

    /**
     * Rows of up to eight types, four bits each, the lowest type in the lowest bits: so that
     * two rows are compared, and one is kept, as a single int.
     */
    private static final class Row {
        static final int EMPTY = 0;
        // No type is 15, so no row of types reads like this one.
        static final int NONE = -1;
        private static final int MOST = 8;

        static int size(int row) {
            int size = 0;
            while (size < MOST && (row >>> (4 * size)) != 0) {
                size++;
            }
            return size;
        }

        static int typeAt(int row, int i) {
            return i < 0 || i >= MOST ? Type.NOTHING : (row >>> (4 * i)) & 15;
        }

        static int top(int row) {
            return typeAt(row, size(row) - 1);
        }

        /** The row with the type on top; NONE if it is full or there is no such type. */
        static int with(int row, int type) {
            int size = size(row);
            if (row == NONE || size >= MOST || type == Type.NOTHING) {
                return NONE;
            }
            return row | (type << (4 * size));
        }

        /** The row without the type on top; NONE if that is not on top. */
        static int without(int row, int type) {
            int last = size(row) - 1;
            if (row == NONE || last < 0 || type == Type.NOTHING || typeAt(row, last) != type) {
                return NONE;
            }
            return row & ~(15 << (4 * last));
        }
    }

    /** The numbers of the instructions. */
    private static final class Op {
        static final int CONST = 1;
        static final int GET = 2;
        static final int SET = 3;
        static final int SPOT = 4;
        static final int ARG = 5;
        static final int PUT = 6;
        static final int ADD = 7;
        static final int SUB = 8;
        static final int MUL = 9;
        static final int DIV = 10;
        static final int DUP = 11;
        static final int DROP = 12;
        static final int GO = 13;
        static final int IF = 14;
        static final int LESS = 15;
        static final int NULL = 16;
        static final int NEW = 17;
        static final int FIELD = 18;
        static final int STORE = 19;
        static final int AT = 20;
        static final int ARRAY = 21;
        static final int ITEM = 22;
        static final int KEEP = 23;
        static final int POINT = 24;
        static final int SIZE = 25;
        static final int LOAD = 26;
        static final int SAVE = 27;
        static final int PAIR = 28;
        static final int FIRST = 29;
        static final int SECOND = 30;
        static final int BOX = 31;
        static final int OPEN = 32;
        static final int CALL = 33;
        static final int RETURN = 34;
        static final int THROW = 35;
        static final int LEAVE = 36;
        static final int DONE = 37;

        static boolean isKnown(int op) {
            return op >= 0 && op <= DONE;
        }

        /** How many bytes the instruction has. */
        static int width(int op) {
            boolean early = op >= CONST && op <= PUT;
            boolean middle = op >= GO && op <= AT;
            return early || middle || op == CALL || op == LEAVE ? 2 : 1;
        }

        static boolean goesBehind(int op) {
            return op != GO && op < RETURN;
        }

        static boolean jumps(int op) {
            return op == GO || op == IF || op == LESS;
        }

        static int signed(int k) {
            return k > 127 ? k - 256 : k;
        }
    }

    /** A region of a method's code: a part that is kept, and its handler. */
    private static final class Region {
        int from;
        int middle;
        int end;
        boolean isFinally;

        boolean keeps(int p) {
            return p >= from && p < middle;
        }

        boolean handles(int p) {
            return p >= middle && p < end;
        }

        boolean isApartFromOrWithin(Region later) {
            boolean apart = end <= later.from || later.end <= from;
            boolean inPart = from >= later.from && end <= later.middle;
            boolean inHandler = from >= later.middle && end <= later.end;
            return apart || inPart || inHandler;
        }
    }

    /** A method as the image tells it, and what its verification found. */
    private static final class Method {
        static final int ARGUMENTS_MOST = 3;
        static final int LOCALS_MOST = 4;
        static final int REGIONS_MOST = 3;
        static final int CODE_MOST = 100;

        int result;
        int argumentCount;
        int localCount;
        int regionCount;
        int size;
        final int[] argumentTypes;
        final int[] localTypes;
        final Region[] regions;
        final int[] code;
        boolean isVerified;
        // For each place the row of types with which it is reached.
        final int[] rows;
        // A bit for each method that an instruction which can be reached calls.
        int calls;

        Method() {
            argumentTypes = new int[ARGUMENTS_MOST];
            localTypes = new int[LOCALS_MOST];
            regions = new Region[REGIONS_MOST];
            for (int r = 0; r < REGIONS_MOST; r++) {
                regions[r] = new Region();
            }
            code = new int[CODE_MOST];
            rows = new int[CODE_MOST];
        }

        int argumentType(int k) {
            return k < 0 || k >= argumentCount ? Type.NOTHING : argumentTypes[k];
        }

        int localType(int k) {
            return k < 0 || k >= localCount ? Type.NOTHING : localTypes[k];
        }

        int codeAt(int p) {
            return p < 0 || p >= size ? 0 : code[p];
        }

        int rowAt(int p) {
            return p < 0 || p >= size ? Row.NONE : rows[p];
        }

        boolean takesNumbersAlone() {
            for (int k = 0; k < argumentCount; k++) {
                if (argumentTypes[k] != Type.NUMBER) {
                    return false;
                }
            }
            return true;
        }

        /** A bit for each region in whose part the place lies. */
        int partsAt(int p) {
            int parts = 0;
            for (int r = 0; r < regionCount; r++) {
                if (regions[r].keeps(p)) {
                    parts |= 1 << r;
                }
            }
            return parts;
        }

        /** A bit for each region in whose handler the place lies. */
        int handlersAt(int p) {
            int handlers = 0;
            for (int r = 0; r < regionCount; r++) {
                if (regions[r].handles(p)) {
                    handlers |= 1 << r;
                }
            }
            return handlers;
        }

        /**
         * The FINALLY whose handler has the place in it and in no region further within;
         * -1 if there is none. Inner regions come before outer ones, so the first that has
         * the place is the innermost.
         */
        int finallyAround(int p) {
            for (int r = 0; r < regionCount; r++) {
                if (regions[r].keeps(p)) {
                    return -1;
                }
                if (regions[r].handles(p)) {
                    return regions[r].isFinally ? r : -1;
                }
            }
            return -1;
        }
    }

    /** The classes and methods of an image; one with no methods stands for none. */
    private static final class Image {
        static final int CLASSES_MOST = 4;
        static final int FIELDS_MOST = 4;
        static final int METHODS_MOST = 6;

        int classCount;
        int methodCount;
        final int[] fieldCounts;
        final int[] fieldTypes;
        final Method[] methods;

        Image() {
            fieldCounts = new int[CLASSES_MOST];
            fieldTypes = new int[CLASSES_MOST * FIELDS_MOST];
            methods = new Method[METHODS_MOST];
            for (int m = 0; m < METHODS_MOST; m++) {
                methods[m] = new Method();
            }
        }

        /** Method m, null if there is none. */
        Method method(int m) {
            return m < 0 || m >= methodCount ? null : methods[m];
        }

        /** Method m, null if there is none or it is not verified. */
        Method verifiedMethod(int m) {
            Method method = method(m);
            return method == null || !method.isVerified ? null : method;
        }

        boolean hasClass(int c) {
            return c >= 0 && c < classCount;
        }

        /** The type of the field that an instruction's k names; NOTHING if there is none. */
        int fieldType(int k) {
            int c = k / FIELDS_MOST;
            boolean isThere = k >= 0 && hasClass(c) && k % FIELDS_MOST < fieldCounts[c];
            return isThere ? fieldTypes[k] : Type.NOTHING;
        }

        /** Whether null can be of that type. */
        boolean canBeNull(int type) {
            return type == Type.ARRAY || type == Type.BOX || hasClass(type - Type.OBJECT);
        }

        /** Whether method m, and all that it can come to call, are verified. */
        boolean callsVerifiedAlone(int m) {
            int known = 1 << m;
            // Each round but the last finds a method that was not known, so there are no more
            // rounds than methods.
            for (int round = 0; round < methodCount; round++) {
                for (int other = 0; other < methodCount; other++) {
                    if ((known >> other & 1) == 1) {
                        if (!methods[other].isVerified) {
                            return false;
                        }
                        known |= methods[other].calls;
                    }
                }
            }
            return true;
        }
    }

    /**
     * Reads bytes as an image. What is wrong is noted, and a right number read in its place,
     * so that every count stays within the rows that it is for.
     */
    private static final class Reader {
        private static final int MARK = 77;

        private int[] bytes;
        private int size;
        private int next;
        private boolean isRight;

        Reader() {
            bytes = new int[0];
        }

        boolean readInto(Image image, int[] from, int howMany) {
            bytes = from;
            size = Math.min(howMany, from.length);
            next = 0;
            isRight = true;
            number(MARK, MARK);
            readClasses(image);
            image.methodCount = number(1, Image.METHODS_MOST);
            for (int m = 0; m < image.methodCount; m++) {
                readMethod(image, image.methods[m]);
            }
            return isRight && next == size;
        }

        private void readClasses(Image image) {
            image.classCount = number(0, Image.CLASSES_MOST);
            for (int c = 0; c < image.classCount; c++) {
                image.fieldCounts[c] = number(0, Image.FIELDS_MOST);
                for (int f = 0; f < image.fieldCounts[c]; f++) {
                    image.fieldTypes[Image.FIELDS_MOST * c + f] = keptType(image);
                }
            }
        }

        private void readMethod(Image image, Method method) {
            method.result = nextIs(Type.NOTHING) ? number(Type.NOTHING, Type.NOTHING) : keptType(image);
            method.argumentCount = number(0, Method.ARGUMENTS_MOST);
            for (int k = 0; k < method.argumentCount; k++) {
                method.argumentTypes[k] = nextIs(Type.PLACE) ? number(Type.PLACE, Type.PLACE) : keptType(image);
            }
            method.localCount = number(0, Method.LOCALS_MOST);
            for (int k = 0; k < method.localCount; k++) {
                method.localTypes[k] = keptType(image);
            }
            method.regionCount = number(0, Method.REGIONS_MOST);
            for (int r = 0; r < method.regionCount; r++) {
                readRegion(method.regions[r]);
            }
            method.size = number(1, Method.CODE_MOST);
            for (int p = 0; p < method.size; p++) {
                method.code[p] = number(0, 255);
            }
        }

        private void readRegion(Region region) {
            region.from = number(0, 255);
            region.middle = number(0, 255);
            region.end = number(0, 255);
            region.isFinally = number(0, 1) == 1;
        }

        /** The next type, of those that a field, a local or a result may have. */
        private int keptType(Image image) {
            int type = number(Type.NUMBER, 255);
            if (type != Type.NUMBER && type != Type.PAIR && !image.canBeNull(type)) {
                isRight = false;
            }
            return type;
        }

        private boolean nextIs(int number) {
            return next < size && bytes[next] == number;
        }

        private int number(int least, int most) {
            int number = next < size ? bytes[next] : -1;
            if (number < least || number > most) {
                isRight = false;
                return least;
            }
            next++;
            return number;
        }
    }

    /** Finds whether a method is verified, and the rows of types with which its places are reached. */
    private static final class Verifier {
        private Image image;
        private Method method;
        private final boolean[] begins;
        private final int[] reached;
        private int reachedCount;

        Verifier(Image image) {
            this.image = image;
            method = image.methods[0];
            begins = new boolean[Method.CODE_MOST];
            reached = new int[Method.CODE_MOST];
        }

        void verify(Image ofImage, Method ofMethod) {
            image = ofImage;
            method = ofMethod;
            method.calls = 0;
            reachedCount = 0;
            boolean isRight = findBeginnings() && areRegionsWellMade() && reach(0, Row.EMPTY);
            // A place stands in the list once, so the list is never longer than the code.
            for (int i = 0; isRight && i < reachedCount && i < Method.CODE_MOST; i++) {
                isRight = follow(reached[i]);
            }
            method.isVerified = isRight;
        }

        private boolean findBeginnings() {
            for (int p = 0; p < method.size; p++) {
                begins[p] = false;
                method.rows[p] = Row.NONE;
            }
            int p = 0;
            while (p < method.size) {
                int op = method.code[p];
                if (!Op.isKnown(op)) {
                    return false;
                }
                begins[p] = true;
                p += Op.width(op);
            }
            return p == method.size;
        }

        private boolean beginsAt(int p) {
            return p >= 0 && p < method.size && begins[p];
        }

        private boolean areRegionsWellMade() {
            for (int r = 0; r < method.regionCount; r++) {
                Region region = method.regions[r];
                if (!isWellMade(region)) {
                    return false;
                }
                for (int later = r + 1; later < method.regionCount; later++) {
                    if (!region.isApartFromOrWithin(method.regions[later])) {
                        return false;
                    }
                }
            }
            return true;
        }

        private boolean isWellMade(Region region) {
            boolean inOrder = region.from < region.middle && region.middle < region.end;
            boolean endsWell = region.end == method.size || beginsAt(region.end);
            return inOrder && endsWell && beginsAt(region.from) && beginsAt(region.middle);
        }

        private boolean reach(int p, int row) {
            if (!beginsAt(p) || row == Row.NONE) {
                return false;
            }
            if (method.rows[p] != Row.NONE) {
                return method.rows[p] == row;
            }
            if (reachedCount >= Method.CODE_MOST) {
                return false;
            }
            method.rows[p] = row;
            reached[reachedCount] = p;
            reachedCount++;
            return true;
        }

        private boolean follow(int p) {
            int op = method.codeAt(p);
            int k = method.codeAt(p + 1);
            int row = method.rowAt(p);
            int left;
            if (op <= Op.LESS) {
                left = rowBehindSimple(op, k, row);
            } else if (op <= Op.SIZE) {
                left = rowBehindThing(op, k, row);
            } else if (op <= Op.OPEN) {
                left = rowBehindValue(op, row);
            } else {
                left = rowBehindFlow(op, k, row);
            }
            return left != Row.NONE && liesWhereItMay(op, p) && reachHandlers(p) && reachNext(p, op, k, left);
        }

        private boolean reachNext(int p, int op, int k, int left) {
            int target = p + 2 + Op.signed(k);
            if (op == Op.LEAVE) {
                return mayLeave(p, target) && reach(target, Row.EMPTY);
            }
            if (Op.jumps(op) && !goOn(p, target, left)) {
                return false;
            }
            return !Op.goesBehind(op) || goOn(p, p + Op.width(op), left);
        }

        private boolean liesWhereItMay(int op, int p) {
            if (op == Op.RETURN) {
                return method.partsAt(p) == 0 && method.handlersAt(p) == 0;
            }
            if (op == Op.DONE) {
                return method.finallyAround(p) >= 0 && method.rowAt(p) == Row.EMPTY;
            }
            return true;
        }

        private boolean reachHandlers(int p) {
            for (int r = 0; r < method.regionCount; r++) {
                Region region = method.regions[r];
                int row = region.isFinally ? Row.EMPTY : Row.with(Row.EMPTY, Type.NUMBER);
                if (region.keeps(p) && !reach(region.middle, row)) {
                    return false;
                }
            }
            return true;
        }

        /** Reaches the next one, if an instruction at p may go on there but by a leave. */
        private boolean goOn(int p, int next, int row) {
            int parts = method.partsAt(p);
            int partsNext = method.partsAt(next);
            if (method.handlersAt(p) != method.handlersAt(next) || (parts & ~partsNext) != 0) {
                return false;
            }
            int begun = partsNext & ~parts;
            for (int r = 0; r < method.regionCount; r++) {
                if ((begun >> r & 1) == 1 && (method.regions[r].from != next || row != Row.EMPTY)) {
                    return false;
                }
            }
            return reach(next, row);
        }

        private boolean mayLeave(int p, int target) {
            int handlers = method.handlersAt(p);
            int handlersThere = method.handlersAt(target);
            if ((method.partsAt(target) & ~method.partsAt(p)) != 0 || (handlersThere & ~handlers) != 0) {
                return false;
            }
            int left = handlers & ~handlersThere;
            for (int r = 0; r < method.regionCount; r++) {
                if ((left >> r & 1) == 1 && method.regions[r].isFinally) {
                    return false;
                }
            }
            return true;
        }

        // Each of these tells the row that the instruction leaves; NONE if it lacks what it takes
        // or names.

        private int rowBehindSimple(int op, int k, int row) {
            switch (op) {
                case Op.CONST:
                    return Row.with(row, Type.NUMBER);
                case Op.GET:
                    return Row.with(row, method.localType(k));
                case Op.SET:
                    return Row.without(row, method.localType(k));
                case Op.SPOT:
                    return Row.with(row, placeOf(method.localType(k)));
                case Op.ARG:
                    return Row.with(row, method.argumentType(k));
                case Op.PUT:
                    return Row.without(row, method.argumentType(k));
                case Op.ADD:
                case Op.SUB:
                case Op.MUL:
                case Op.DIV:
                    return Row.with(withoutNumbers(row, 2), Type.NUMBER);
                case Op.DUP:
                    return Row.with(row, Row.top(row));
                case Op.DROP:
                    return Row.without(row, Row.top(row));
                case Op.IF:
                    return withoutNumbers(row, 1);
                case Op.LESS:
                    return withoutNumbers(row, 2);
                default:
                    return row;
            }
        }

        private int rowBehindThing(int op, int k, int row) {
            int field = image.fieldType(k);
            // A field that is there has a class that is there, so that no other number is a type.
            int object = field == Type.NOTHING ? Type.NOTHING : Type.OBJECT + k / Image.FIELDS_MOST;
            switch (op) {
                case Op.NULL:
                    return Row.with(row, image.canBeNull(k) ? k : Type.NOTHING);
                case Op.NEW:
                    return Row.with(row, image.hasClass(k) ? Type.OBJECT + k : Type.NOTHING);
                case Op.FIELD:
                    return Row.with(Row.without(row, object), field);
                case Op.STORE:
                    return Row.without(Row.without(row, field), object);
                case Op.AT:
                    return Row.with(Row.without(row, object), placeOf(field));
                case Op.ARRAY:
                    return Row.with(withoutNumbers(row, 1), Type.ARRAY);
                case Op.ITEM:
                    return Row.with(Row.without(withoutNumbers(row, 1), Type.ARRAY), Type.NUMBER);
                case Op.KEEP:
                    return Row.without(withoutNumbers(row, 2), Type.ARRAY);
                case Op.POINT:
                    return Row.with(Row.without(withoutNumbers(row, 1), Type.ARRAY), Type.PLACE);
                case Op.SIZE:
                    return Row.with(Row.without(row, Type.ARRAY), Type.NUMBER);
                default:
                    return Row.NONE;
            }
        }

        private static int rowBehindValue(int op, int row) {
            switch (op) {
                case Op.LOAD:
                    return Row.with(Row.without(row, Type.PLACE), Type.NUMBER);
                case Op.SAVE:
                    return Row.without(withoutNumbers(row, 1), Type.PLACE);
                case Op.PAIR:
                    return Row.with(withoutNumbers(row, 2), Type.PAIR);
                case Op.FIRST:
                case Op.SECOND:
                    return Row.with(Row.without(row, Type.PAIR), Type.NUMBER);
                case Op.BOX:
                    return Row.with(Row.without(row, Type.PAIR), Type.BOX);
                case Op.OPEN:
                    return Row.with(Row.without(row, Type.BOX), Type.PAIR);
                default:
                    return Row.NONE;
            }
        }

        private int rowBehindFlow(int op, int k, int row) {
            switch (op) {
                case Op.CALL:
                    return rowBehindCall(k, row);
                case Op.RETURN:
                    return method.result == Type.NOTHING ? row : Row.without(row, method.result);
                case Op.THROW:
                    return withoutNumbers(row, 1);
                default:
                    return row;
            }
        }

        private int rowBehindCall(int m, int row) {
            Method called = image.method(m);
            if (called == null) {
                return Row.NONE;
            }
            method.calls |= 1 << m;
            int left = row;
            for (int k = called.argumentCount - 1; k >= 0; k--) {
                left = Row.without(left, called.argumentTypes[k]);
            }
            return called.result == Type.NOTHING ? left : Row.with(left, called.result);
        }

        private static int withoutNumbers(int row, int count) {
            int left = row;
            for (int i = 0; i < count; i++) {
                left = Row.without(left, Type.NUMBER);
            }
            return left;
        }

        private static int placeOf(int type) {
            return type == Type.NUMBER ? Type.PLACE : Type.NOTHING;
        }
    }

    /** An active method: its arguments, stack, place in the code, and what is pending in it. */
    private static final class Frame {
        static final int NOTHING_PENDING = 0;
        static final int THROW_PENDING = 1;
        static final int LEAVE_PENDING = 2;
        private static final int STACK_MOST = 8;

        // Where the run keeps this method's locals.
        final int firstLocal;
        Method method;
        int number;
        int place;
        int height;
        private final long[] stack;
        private final long[] arguments;
        // For each region: what is pending for its handler, what is thrown or where the leave
        // goes, and the place from where it came.
        final int[] pending;
        final int[] pendingValue;
        final int[] pendingFrom;

        Frame(int firstLocal, Method method) {
            this.firstLocal = firstLocal;
            this.method = method;
            stack = new long[STACK_MOST];
            arguments = new long[Method.ARGUMENTS_MOST];
            pending = new int[Method.REGIONS_MOST];
            pendingValue = new int[Method.REGIONS_MOST];
            pendingFrom = new int[Method.REGIONS_MOST];
        }

        void begin(Method ofMethod, int m) {
            method = ofMethod;
            number = m;
            place = 0;
            height = 0;
            for (int r = 0; r < Method.REGIONS_MOST; r++) {
                pending[r] = NOTHING_PENDING;
            }
        }

        void push(long value) {
            if (height >= 0 && height < STACK_MOST) {
                stack[height] = value;
                height++;
            }
        }

        long pop() {
            if (height <= 0 || height > STACK_MOST) {
                return 0;
            }
            height--;
            return stack[height];
        }

        int popInt() {
            return (int) pop();
        }

        long valueAt(int i) {
            return i < 0 || i >= height || i >= STACK_MOST ? 0 : stack[i];
        }

        long argument(int k) {
            return k < 0 || k >= Method.ARGUMENTS_MOST ? 0 : arguments[k];
        }

        void setArgument(int k, long value) {
            if (k >= 0 && k < Method.ARGUMENTS_MOST) {
                arguments[k] = value;
            }
        }

        /** What is pending for the handlers that a throw from there to the target goes out of is gone. */
        void forgetPending(int from, int target) {
            int gone = method.handlersAt(from) & ~method.handlersAt(target);
            for (int r = 0; r < Method.REGIONS_MOST; r++) {
                if ((gone >> r & 1) == 1) {
                    pending[r] = NOTHING_PENDING;
                }
            }
        }

        void keepPending(int r, int what, int value, int from) {
            pending[r] = what;
            pendingValue[r] = value;
            pendingFrom[r] = from;
        }
    }

    /**
     * A run. Every value is one long: a NUMBER itself; a PAIR with its first int in the upper
     * half; a PLACE the address of a cell; an ARRAY, BOX or OBJECT the number of the thing,
     * counted from 1, or 0 for null. The locals and what is in the things are cells of one
     * row, so that a PLACE can point at any of them.
     */
    private static final class Run {
        static final int NO_RUN = 0;
        static final int GOES_ON = 1;
        static final int OVER = 2;
        static final int TRAPPED = 3;

        private static final int DIVIDED_BY_ZERO = 1;
        private static final int TAKEN_OF_NULL = 2;
        private static final int NO_SUCH_NUMBER = 3;
        private static final int TOO_MANY_THINGS = 4;
        private static final int TOO_MANY_ACTIVE = 5;

        private static final int ACTIVE_MOST = 8;
        private static final int THINGS_MOST = 40;
        private static final int ITEMS_MOST = 20;
        private static final int FIRST_THING = ACTIVE_MOST * Method.LOCALS_MOST;

        private Image image;
        private final Frame[] frames;
        private final long[] cells;
        private final int[] itemCounts;
        private final int[] entries;
        // What the instruction throws, from where, and the first region that it comes to.
        private boolean isThrowing;
        private int thrown;
        private int thrownFrom;
        private int thrownRegion;
        int phase;
        int outcome;
        int active;
        int made;

        Run(Image image) {
            this.image = image;
            frames = new Frame[ACTIVE_MOST];
            for (int i = 0; i < ACTIVE_MOST; i++) {
                frames[i] = new Frame(i * Method.LOCALS_MOST, image.methods[0]);
            }
            cells = new long[FIRST_THING + THINGS_MOST * ITEMS_MOST];
            itemCounts = new int[THINGS_MOST];
            entries = new int[Image.METHODS_MOST * Method.REGIONS_MOST];
            phase = NO_RUN;
        }

        void drop() {
            phase = NO_RUN;
            outcome = 0;
        }

        void begin(Image ofImage, int m, int a, int b) {
            image = ofImage;
            phase = GOES_ON;
            outcome = 0;
            active = 0;
            made = 0;
            for (int i = 0; i < entries.length; i++) {
                entries[i] = 0;
            }
            Frame frame = activate(m);
            frame.setArgument(0, a);
            frame.setArgument(1, b);
            frame.setArgument(2, 0);
        }

        /** The frame of the latest active method. */
        Frame latest() {
            return frames[active >= 1 && active <= ACTIVE_MOST ? active - 1 : 0];
        }

        int entriesOf(int m, int r) {
            boolean isThere = m >= 0 && m < Image.METHODS_MOST && r >= 0 && r < Method.REGIONS_MOST;
            return isThere ? entries[m * Method.REGIONS_MOST + r] : 0;
        }

        private Frame activate(int m) {
            active = active < ACTIVE_MOST ? active + 1 : ACTIVE_MOST;
            Frame frame = latest();
            Method method = image.method(m);
            if (method != null) {
                frame.begin(method, m);
            }
            for (int k = 0; k < Method.LOCALS_MOST; k++) {
                setCell(frame.firstLocal + k, 0);
            }
            return frame;
        }

        private long cell(int address) {
            return address < 0 || address >= cells.length ? 0 : cells[address];
        }

        private void setCell(int address, long value) {
            if (address >= 0 && address < cells.length) {
                cells[address] = value;
            }
        }

        private static int addressIn(int thing, int i) {
            return FIRST_THING + (thing - 1) * ITEMS_MOST + i;
        }

        private int itemCount(int thing) {
            return thing < 1 || thing > THINGS_MOST ? 0 : itemCounts[thing - 1];
        }

        void doInstruction() {
            Frame frame = latest();
            int op = frame.method.codeAt(frame.place);
            int k = frame.method.codeAt(frame.place + 1);
            boolean goesBehind;
            if (op <= Op.LESS) {
                goesBehind = doSimple(frame, op, k);
            } else if (op <= Op.SIZE) {
                goesBehind = doThing(frame, op, k);
            } else if (op <= Op.OPEN) {
                goesBehind = doValue(frame, op);
            } else {
                goesBehind = doFlow(frame, op, k);
            }
            // The place stays at the instruction until it is done, as a throw looks from there.
            if (isThrowing) {
                isThrowing = false;
                throwOn();
            } else if (goesBehind) {
                frame.place += Op.width(op);
            }
        }

        /** The instruction throws e; answers false, as the method does not go on behind it. */
        private boolean raise(int e) {
            return raiseFrom(e, latest().place, 0);
        }

        private boolean raiseFrom(int e, int from, int region) {
            isThrowing = true;
            thrown = e;
            thrownFrom = from;
            thrownRegion = region;
            return false;
        }

        // Each of the following, down to finish, does an instruction and answers whether the
        // method goes on behind it.

        private boolean doSimple(Frame frame, int op, int k) {
            switch (op) {
                case Op.CONST:
                    frame.push(Op.signed(k));
                    return true;
                case Op.GET:
                    frame.push(cell(frame.firstLocal + k));
                    return true;
                case Op.SET:
                    setCell(frame.firstLocal + k, frame.pop());
                    return true;
                case Op.SPOT:
                    frame.push(frame.firstLocal + k);
                    return true;
                case Op.ARG:
                    frame.push(frame.argument(k));
                    return true;
                case Op.PUT:
                    frame.setArgument(k, frame.pop());
                    return true;
                case Op.ADD:
                case Op.SUB:
                case Op.MUL:
                case Op.DIV:
                    return compute(frame, op);
                case Op.DUP:
                    frame.push(frame.valueAt(frame.height - 1));
                    return true;
                case Op.DROP:
                    frame.pop();
                    return true;
                case Op.GO:
                    return jump(frame, k, true);
                case Op.IF:
                    return jump(frame, k, frame.popInt() != 0);
                case Op.LESS:
                    return jumpIfLess(frame, k);
                default:
                    return true;
            }
        }

        private boolean compute(Frame frame, int op) {
            int b = frame.popInt();
            int a = frame.popInt();
            if (op == Op.ADD) {
                frame.push(a + b);
            } else if (op == Op.SUB) {
                frame.push(a - b);
            } else if (op == Op.MUL) {
                frame.push(a * b);
            } else if (b == 0) {
                return raise(DIVIDED_BY_ZERO);
            } else {
                frame.push(a / b);
            }
            return true;
        }

        private static boolean jump(Frame frame, int k, boolean isTaken) {
            if (isTaken) {
                frame.place += 2 + Op.signed(k);
            }
            return !isTaken;
        }

        private static boolean jumpIfLess(Frame frame, int k) {
            int b = frame.popInt();
            int a = frame.popInt();
            return jump(frame, k, a < b);
        }

        private boolean doThing(Frame frame, int op, int k) {
            switch (op) {
                case Op.NULL:
                    frame.push(0);
                    return true;
                case Op.NEW:
                    return make(frame, 0);
                case Op.FIELD:
                case Op.STORE:
                case Op.AT:
                    return doField(frame, op, k % Image.FIELDS_MOST);
                case Op.ARRAY:
                    return makeArray(frame);
                case Op.SIZE:
                    return pushSize(frame);
                default:
                    return doItem(frame, op);
            }
        }

        /** A new thing, all 0 or null, on the stack. */
        private boolean make(Frame frame, int items) {
            if (made < 0 || made >= THINGS_MOST) {
                return raise(TOO_MANY_THINGS);
            }
            itemCounts[made] = items;
            made++;
            for (int i = 0; i < ITEMS_MOST; i++) {
                setCell(addressIn(made, i), 0);
            }
            frame.push(made);
            return true;
        }

        private boolean makeArray(Frame frame) {
            int count = frame.popInt();
            if (count < 0 || count > ITEMS_MOST) {
                return raise(NO_SUCH_NUMBER);
            }
            return make(frame, count);
        }

        private boolean pushSize(Frame frame) {
            int array = frame.popInt();
            if (array == 0) {
                return raise(TAKEN_OF_NULL);
            }
            frame.push(itemCount(array));
            return true;
        }

        private boolean doField(Frame frame, int op, int f) {
            long value = op == Op.STORE ? frame.pop() : 0;
            int object = frame.popInt();
            if (object == 0) {
                return raise(TAKEN_OF_NULL);
            }
            int address = addressIn(object, f);
            if (op == Op.STORE) {
                setCell(address, value);
            } else {
                frame.push(op == Op.FIELD ? cell(address) : address);
            }
            return true;
        }

        private boolean doItem(Frame frame, int op) {
            long value = op == Op.KEEP ? frame.pop() : 0;
            int i = frame.popInt();
            int array = frame.popInt();
            if (array == 0) {
                return raise(TAKEN_OF_NULL);
            }
            if (i < 0 || i >= itemCount(array)) {
                return raise(NO_SUCH_NUMBER);
            }
            int address = addressIn(array, i);
            if (op == Op.KEEP) {
                setCell(address, value);
            } else {
                frame.push(op == Op.ITEM ? cell(address) : address);
            }
            return true;
        }

        private boolean doValue(Frame frame, int op) {
            long value = frame.pop();
            switch (op) {
                case Op.LOAD:
                    frame.push(cell((int) value));
                    return true;
                case Op.SAVE:
                    setCell(frame.popInt(), value);
                    return true;
                case Op.PAIR:
                    frame.push((frame.pop() << 32) | (value & 0xFFFFFFFFL));
                    return true;
                case Op.FIRST:
                    frame.push(firstOf(value));
                    return true;
                case Op.SECOND:
                    frame.push((int) value);
                    return true;
                case Op.BOX:
                    return makeBox(frame, value);
                default:
                    return openBox(frame, (int) value);
            }
        }

        private static int firstOf(long pair) {
            return (int) (pair >> 32);
        }

        private boolean makeBox(Frame frame, long pair) {
            if (!make(frame, 0)) {
                return false;
            }
            setCell(addressIn(made, 0), pair);
            return true;
        }

        private boolean openBox(Frame frame, int box) {
            if (box == 0) {
                return raise(TAKEN_OF_NULL);
            }
            frame.push(cell(addressIn(box, 0)));
            return true;
        }

        private boolean doFlow(Frame frame, int op, int k) {
            switch (op) {
                case Op.CALL:
                    return call(frame, k);
                case Op.RETURN:
                    return giveBack(frame);
                case Op.THROW:
                    return raise(frame.popInt());
                case Op.LEAVE:
                    return leave(frame, frame.place + 2 + Op.signed(k), frame.place, 0);
                default:
                    return finish(frame);
            }
        }

        private boolean call(Frame frame, int m) {
            if (active >= ACTIVE_MOST) {
                return raise(TOO_MANY_ACTIVE);
            }
            Frame called = activate(m);
            for (int k = called.method.argumentCount - 1; k >= 0; k--) {
                called.setArgument(k, frame.pop());
            }
            return false;
        }

        private boolean giveBack(Frame frame) {
            int type = frame.method.result;
            long value = type == Type.NOTHING ? 0 : frame.pop();
            active--;
            if (active <= 0) {
                end(OVER, numberOf(type, value));
                return false;
            }
            Frame caller = latest();
            if (type != Type.NOTHING) {
                caller.push(value);
            }
            caller.place += Op.width(Op.CALL);
            return false;
        }

        private static int numberOf(int type, long value) {
            if (type == Type.NUMBER) {
                return (int) value;
            }
            return type == Type.PAIR ? firstOf(value) : 0;
        }

        /** Goes on with a leave from there to the target, at the regions from one on. */
        private boolean leave(Frame frame, int target, int from, int region) {
            frame.height = 0;
            for (int r = region; r < frame.method.regionCount; r++) {
                Region next = frame.method.regions[r];
                if (next.isFinally && next.keeps(from) && !next.keeps(target)) {
                    enter(frame, r);
                    frame.keepPending(r, Frame.LEAVE_PENDING, target, from);
                    return false;
                }
            }
            frame.place = target;
            return false;
        }

        /** What is pending for the handler that ends here goes on, at the regions behind its own. */
        private boolean finish(Frame frame) {
            int r = frame.method.finallyAround(frame.place);
            int what = r < 0 ? Frame.NOTHING_PENDING : frame.pending[r];
            if (what == Frame.NOTHING_PENDING) {
                return false;
            }
            frame.pending[r] = Frame.NOTHING_PENDING;
            if (what == Frame.THROW_PENDING) {
                return raiseFrom(frame.pendingValue[r], frame.pendingFrom[r], r + 1);
            }
            return leave(frame, frame.pendingValue[r], frame.pendingFrom[r], r + 1);
        }

        /** What is thrown goes through the latest method, then through those that called it. */
        private void throwOn() {
            boolean isHandled = handle(latest(), thrownFrom, thrownRegion);
            while (!isHandled && active > 1) {
                active--;
                isHandled = handle(latest(), latest().place, 0);
            }
            if (!isHandled) {
                end(TRAPPED, thrown);
            }
        }

        private boolean handle(Frame frame, int from, int region) {
            for (int r = region; r < frame.method.regionCount; r++) {
                Region next = frame.method.regions[r];
                if (next.keeps(from)) {
                    frame.forgetPending(from, next.middle);
                    enter(frame, r);
                    if (next.isFinally) {
                        frame.keepPending(r, Frame.THROW_PENDING, thrown, from);
                    } else {
                        frame.push(thrown);
                    }
                    return true;
                }
            }
            return false;
        }

        private void enter(Frame frame, int r) {
            frame.height = 0;
            frame.place = frame.method.regions[r].middle;
            int m = frame.number;
            if (m >= 0 && m < Image.METHODS_MOST) {
                entries[m * Method.REGIONS_MOST + r]++;
            }
        }

        private void end(int how, int number) {
            phase = how;
            outcome = number;
        }
    }
}
