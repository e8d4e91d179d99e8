import java.util.Arrays;

/** The sentences of promises 1 to 14: the last that is allowed, and the first that isn't. What is refused, RefusedTest looks at too. */
public final class PromiseBoundsTest {
    private static final int MIN = Integer.MIN_VALUE;
    private static final int MAX = Integer.MAX_VALUE;
    private static final int[] SMALLEST = {77, 0, 1, 0, 0, 0, 0, 1, 34};

    public static void main(String[] args) {
        fiveHundredAndTwelveCalls();
        aNewObject();
        draftPutsLowestBytes();
        draftOfOneToEight();
        draftOfFourHundred();
        clearEmptiesTheDraft();
        loadAnswersMethods();
        loadInPlaceOfTheFormer();
        loadRefused();
        theDraftStays();
        verifiedMethods();
        depthOfPlaces();
        depthOfNoMethod();
        typesOfAStack();
        startBeginsARun();
        startWithNumbersAlone();
        theFirstTwoArguments();
        nothingHasBeenMade();
        startRefused();
        stepsUpToN();
        stepRefused();
        states();
        results();
        thrownAsResult();
        otherwiseZero();
        looks();
        looksOfNone();
        peeks();
        entries();
        Check.finish("PromiseBoundsTest");
    }

    private static TypedEngine loaded(String... lines) {
        return new Asm(lines).engine();
    }

    private static TypedEngine smallest() {
        TypedEngine x = new TypedEngine();
        Asm.draft(x, SMALLEST);
        return x;
    }

    private static void fiveHundredAndTwelveCalls() {
        Check.sentence("An object is used for at most 512 calls after it has been made; what later calls answer is free.");
        TypedEngine x = new TypedEngine();
        int[] bytes = Arrays.copyOf(new int[] {77, 0, 4}, 400);
        int at = 3;
        for (int size : new int[] {100, 100, 100, 77}) {
            bytes[at + 4] = size;
            at += 5 + size;
            bytes[at - 2] = 13;
            bytes[at - 1] = 254;
        }
        int calls = 0;
        for (int b : bytes) {
            Check.due("draft number " + calls, x.draft(b, 1), true);
            calls++;
        }
        Check.due("load()", x.load(), 4);
        Check.due("start(3, 0, 0)", x.start(3, 0, 0), true);
        for (calls += 2; calls < 512; calls++) {
            Check.due("call " + calls + ": step(500)", x.step(500), 500);
        }
        Check.due("calls", calls, 512);
    }

    private static void aNewObject() {
        Check.sentence("No image, nothing drafted.");
        TypedEngine x = new TypedEngine();
        Check.due("load()", x.load(), -1);
        for (int m = -1; m <= 6; m++) {
            Check.due("verified", x.verified(m), false);
            Check.due("depth", x.depth(m, 0), -2);
            Check.due("type", x.type(m, 0, 0), 0);
            Check.due("start", x.start(m, 0, 0), false);
            Check.due("entered", x.entered(m, 0), 0);
            Check.due("look", x.look(m), -1);
            Check.due("peek", x.peek(m), 0);
        }
        Check.due("state()", x.state(), 0);
        Check.due("result()", x.result(), 0);
        Check.due("step(0)", x.step(0), -1);
        TypedEngine y = new TypedEngine();
        int room = 0;
        while (room < 500 && y.draft(0, 1)) {
            room++;
        }
        Check.due("room for so many bytes", room, 400);
    }

    private static void draftPutsLowestBytes() {
        Check.sentence("Puts the n lowest bytes of v, the lowest one first, behind the draft.");
        long[] above = {0, -1L, 0x0123456789ABCDEFL, Long.MIN_VALUE, Long.MAX_VALUE};
        for (int n = 1; n <= 8; n++) {
            for (long noise : above) {
                TypedEngine x = new TypedEngine();
                for (int at = 0; at < SMALLEST.length; at += n) {
                    int count = Math.min(n, SMALLEST.length - at);
                    long v = count == 8 ? 0 : noise << (8 * count);
                    for (int i = 0; i < count; i++) {
                        v |= (long) SMALLEST[at + i] << (8 * i);
                    }
                    Check.due("draft of " + count, x.draft(v, count), true);
                }
                Check.due("the image in pieces of " + n, x.load(), 1);
                Check.due("its method", x.verified(0), true);
            }
        }
        for (int b = 0; b <= 255; b++) {
            TypedEngine x = new TypedEngine();
            x.draft(77L | 1L << 16 | 1L << 24 | 3L << 56, 8);
            x.draft(1L | (long) b << 8 | 34L << 16, 3);
            Check.due("a byte " + b, x.load(), 1);
            x.start(0, 0, 0);
            x.step(2);
            Check.due("its const", x.result(), (byte) b);
        }
        TypedEngine y = new TypedEngine();
        y.draft(0x01L | 0x00L << 8 | 0x4DL << 16, 3);
        Check.due("the highest first is none", y.load(), -1);
    }

    private static void draftOfOneToEight() {
        Check.sentence("False if n is not 1 .. 8, or it would have more than 400.");
        for (int n = -3; n <= 12; n++) {
            TypedEngine x = new TypedEngine();
            boolean is = n >= 1 && n <= 8;
            Check.due("draft(0, " + n + ")", x.draft(0, n), is);
            int room = 0;
            while (room < 500 && x.draft(0, 1)) {
                room++;
            }
            Check.due("room behind draft(0, " + n + ")", room, is ? 400 - n : 400);
        }
        TypedEngine x = new TypedEngine();
        for (int n : new int[] {0, 9, -1, 256, 257, 264, MIN, MIN + 1, MIN + 8, MAX}) {
            Check.due("draft(0, " + n + ")", x.draft(0, n), false);
        }
        Asm.draft(x, SMALLEST);
        Check.due("nothing was drafted by those", x.load(), 1);
    }

    private static void draftOfFourHundred() {
        Check.sentence("or it would have more than 400.");
        for (int size = 390; size <= 400; size++) {
            for (int n = 1; n <= 8; n++) {
                TypedEngine x = new TypedEngine();
                Asm.draft(x, new int[size]);
                boolean is = size + n <= 400;
                Check.due(size + " and " + n + " more", x.draft(-1, n), is);
                int room = 0;
                while (room < 20 && x.draft(0, 1)) {
                    room++;
                }
                Check.due("room behind " + size + " and " + n, room, is ? 400 - size - n : 400 - size);
                Check.due("full: draft(0, 1)", x.draft(0, 1), false);
                Check.due("full: draft(0, 8)", x.draft(0, 8), false);
            }
        }
    }

    private static void clearEmptiesTheDraft() {
        Check.sentence("The draft is empty.");
        for (int size : new int[] {0, 1, 9, 399, 400}) {
            TypedEngine x = new TypedEngine();
            Asm.draft(x, new int[size]);
            x.clear();
            Check.due("load() of " + size + " that were cleared", x.load(), -1);
            int room = 0;
            while (room < 390 && x.draft(0, 1)) {
                room++;
            }
            Check.due("room", room, 390);
            x.clear();
            x.clear();
            Asm.draft(x, SMALLEST);
            Check.due("load() of what came behind", x.load(), 1);
        }
        TypedEngine y = loaded("method number", "const 3 return");
        y.start(0, 0, 0);
        y.step(1);
        y.clear();
        Check.due("the image stays", y.verified(0), true);
        Check.due("the run stays", y.peek(0), 3);
        Check.due("the run goes on", y.step(9), 1);
        Check.due("to its result", y.result(), 3);
    }

    private static void loadAnswersMethods() {
        Check.sentence("there is no run then: how many methods it has.");
        for (int count = 1; count <= 6; count++) {
            String[] lines = new String[2 * count];
            for (int m = 0; m < count; m++) {
                lines[2 * m] = "method none";
                lines[2 * m + 1] = m % 2 == 0 ? "return" : "drop";
            }
            TypedEngine x = new TypedEngine();
            Check.due(count + " methods, also such as are not verified", Asm.load(x, new Asm(lines).bytes()), count);
            for (int m = -1; m <= 7; m++) {
                Check.due("verified(" + m + ") of " + count, x.verified(m), m >= 0 && m < count && m % 2 == 0);
            }
        }
    }

    private static void loadInPlaceOfTheFormer() {
        Check.sentence("Reads the draft as an image, in place of the one that was there; there is no run then");
        String[] former = {"class number", "method number number / number", "region a b c finally", "nop a: const 1 set 0 leave c b: new 0 drop done c: get 0 return",
            "method none", "return"};
        for (int steps : new int[] {0, 1, 5, 500}) {
            TypedEngine x = loaded(former);
            x.start(0, 0, 0);
            x.step(steps);
            Check.due("a run", x.state(), steps == 500 ? 2 : 1);
            Asm.load(x, new Asm("method none", "region a b c finally", "nop nop nop a: leave c", "b: done", "c: return").bytes());
            Check.due("state()", x.state(), 0);
            Check.due("result()", x.result(), 0);
            Check.due("step(0)", x.step(0), -1);
            for (int what = 0; what <= 4; what++) {
                Check.due("look(" + what + ")", x.look(what), -1);
            }
            Check.due("peek(0)", x.peek(0), 0);
            Check.due("entered(0, 0)", x.entered(0, 0), 0);
            Check.due("verified(0)", x.verified(0), true);
            Check.due("verified(1)", x.verified(1), false);
            Check.due("depth(0, 5)", x.depth(0, 5), 0);
            Check.due("depth(0, 7)", x.depth(0, 7), -1);
            Check.due("start(0)", x.start(0, 0, 0), true);
            Check.due("step(500)", x.step(500), 6);
            Check.due("result()", x.result(), 0);
            Check.due("made", x.look(4), 0);
            Check.due("entered(0, 0)", x.entered(0, 0), 1);
        }
        formerRegionsAreGone();
    }

    /** Regions of the former image lie behind those of the latter; none of them counts. */
    private static void formerRegionsAreGone() {
        int[] former = new Asm("method none", "region a b c finally", "region a d e finally", "region a f g catch",
            "a: leave c b: done c: leave e d: done e: leave g f: drop leave g g: return").bytes();
        String[][] latter = {{"nop nop done return", "0"}, {"nop nop nop nop nop done return", "0"}, {"leave t nop t: return", "1"}, {"const 4 throw", "1"},
            {"return nop nop nop nop", "1"}, {"go t nop nop nop t: return", "1"}};
        for (String[] one : latter) {
            TypedEngine x = new TypedEngine();
            Asm.load(x, former);
            Asm.load(x, former);
            Asm.load(x, new Asm("method none", one[0]).bytes());
            Check.due(one[0] + ": verified(0)", x.verified(0), one[1].equals("1"));
            if (x.start(0, 0, 0)) {
                x.step(500);
                Check.due(one[0] + ": state()", x.state(), one[0].endsWith("throw") ? 3 : 2);
            }
            for (int r = 0; r <= 2; r++) {
                Check.due(one[0] + ": entered(0, " + r + ")", x.entered(0, r), 0);
            }
        }
    }

    private static void loadRefused() {
        Check.sentence("-1, refused, if it is none.");
        TypedEngine x = new TypedEngine();
        Check.due("an empty draft", x.load(), -1);
        Check.due("no image yet", x.verified(0), false);
        for (int size = 1; size < SMALLEST.length; size++) {
            Check.due("the first " + size + " bytes", Asm.load(x, Arrays.copyOf(SMALLEST, size)), -1);
            Check.due("no image yet", x.verified(0), false);
        }
        Check.due("all bytes", Asm.load(x, SMALLEST), 1);
        x.start(0, 0, 0);
        Check.due("a byte more", Asm.load(x, Arrays.copyOf(SMALLEST, SMALLEST.length + 1)), -1);
        Check.due("the image stays", x.verified(0), true);
        Check.due("the run stays", x.state(), 1);
        Check.due("it goes on", x.step(2), 1);
    }

    private static void theDraftStays() {
        Check.sentence("(The draft stays.)");
        TypedEngine x = smallest();
        for (int i = 0; i < 5; i++) {
            Check.due("load() again", x.load(), 1);
        }
        x.draft(34, 1);
        Check.due("a byte more", x.load(), -1);
        TypedEngine y = new TypedEngine();
        Asm.draft(y, Arrays.copyOf(SMALLEST, 8));
        Check.due("a byte less", y.load(), -1);
        Check.due("a byte less, again", y.load(), -1);
        y.draft(34, 1);
        Check.due("that byte behind it", y.load(), 1);
        TypedEngine z = smallest();
        z.load();
        int room = 0;
        while (room < 450 && z.draft(0, 1)) {
            room++;
        }
        Check.due("room behind the draft that stays", room, 391);
    }

    private static void verifiedMethods() {
        Check.sentence("Whether method m is verified; false also if there is no such method.");
        TypedEngine x = loaded("method none", "return", "method none", "drop", "method none", "nop", "method none", "nop return", "method none", "done", "method none", "return");
        boolean[] want = {true, false, false, true, false, true};
        for (int m = 0; m <= 5; m++) {
            Check.due("verified(" + m + ")", x.verified(m), want[m]);
        }
        for (int m : new int[] {-1, 6, 7, 8, 256, MIN, MAX}) {
            Check.due("verified(" + m + ")", x.verified(m), false);
        }
    }

    private static void depthOfPlaces() {
        Check.sentence("how many types the stack has with which the instruction at place p is reached; -1 if none begins there or it can't be reached;");
        TypedEngine x = loaded("method none", "const 1 dup dup const 2 drop drop drop drop return nop");
        int[] want = {0, -1, 1, 2, 3, -1, 4, 3, 2, 1, 0, -1};
        for (int p = 0; p < want.length; p++) {
            Check.due("depth(0, " + p + ")", x.depth(0, p), want[p]);
        }
        for (int p : new int[] {-1, 12, 13, 99, 100, 101, 255, 256, MIN, MAX}) {
            Check.due("depth(0, " + p + ")", x.depth(0, p), -1);
        }
        TypedEngine y = loaded("method none", "nop ".repeat(99), "return");
        Check.due("depth(0, 99) of 100", y.depth(0, 99), 0);
        Check.due("depth(0, 100) of 100", y.depth(0, 100), -1);
        TypedEngine z = loaded("method none", "const 1 ".repeat(8), "return");
        for (int p = 0; p <= 16; p++) {
            Check.due("depth(0, " + p + ") of eight", z.depth(0, p), p % 2 == 0 ? p / 2 : -1);
        }
    }

    private static void depthOfNoMethod() {
        Check.sentence("-2 if there is no such verified method.");
        TypedEngine x = loaded("method none", "return", "method none", "drop");
        for (int p : new int[] {MIN, -1, 0, 1, 99, 100, MAX}) {
            for (int m : new int[] {MIN, -1, 1, 2, 5, 6, MAX}) {
                Check.due("depth(" + m + ", " + p + ")", x.depth(m, p), -2);
            }
            Check.due("depth(0, " + p + ")", x.depth(0, p), p == 0 ? 0 : -1);
        }
    }

    private static void typesOfAStack() {
        Check.sentence("The type number i (0 the lowest) of that stack; 0 if there is none.");
        Asm asm = new Asm("class", "class", "class", "class", "method none number pair place",
            "const 1 arg 1 arg 2 null array null box new 0 new 3 arg 0 t: drop u: drop return", "method none", "const 1 drop drop return");
        TypedEngine x = asm.engine();
        int[] want = {1, 2, 3, 4, 5, 8, 11, 1};
        for (int i = 0; i <= 7; i++) {
            Check.due("type(0, t, " + i + ")", x.type(0, asm.at(0, "t"), i), want[i]);
            Check.due("type(0, u, " + i + ")", x.type(0, asm.at(0, "u"), i), i < 7 ? want[i] : 0);
            Check.due("type(0, 0, " + i + ")", x.type(0, 0, i), 0);
            Check.due("type(0, 2, " + i + ")", x.type(0, 2, i), i == 0 ? 1 : 0);
            Check.due("type(0, 1, " + i + "), where none begins", x.type(0, 1, i), 0);
            Check.due("type(1, 2, " + i + "), not verified", x.type(1, 2, i), 0);
            Check.due("type(2, 2, " + i + "), no method", x.type(2, 2, i), 0);
            Check.due("type(-1, 2, " + i + "), no method", x.type(-1, 2, i), 0);
        }
        for (int i : new int[] {-1, 8, 9, 16, 32, 256, MIN, MAX}) {
            Check.due("type(0, t, " + i + ")", x.type(0, asm.at(0, "t"), i), 0);
        }
        for (int p : new int[] {-1, 100, 101, MIN, MAX}) {
            Check.due("type(0, " + p + ", 0)", x.type(0, p, 0), 0);
        }
    }

    private static void startBeginsARun() {
        Check.sentence("Begins a run, in place of another one, with method m");
        TypedEngine x = loaded("class", "method number number", "region a b c catch", "new 0 drop a: const 5 throw b: drop leave c c: arg 0 return",
            "method none", "nop nop return", "method none", "const 8 throw");
        int[] before = {0, 1, 4, 6, 500};
        for (int steps : before) {
            for (int m = 0; m <= 2; m++) {
                x.start(0, 4, 0);
                x.step(steps);
                Check.due("start(" + m + ")", x.start(m, 9, 0), true);
                Check.due("state()", x.state(), 1);
                Check.due("result()", x.result(), 0);
                int[] want = {m, 0, 1, 0, 0};
                for (int what = 0; what <= 4; what++) {
                    Check.due("look(" + what + ")", x.look(what), want[what]);
                }
                Check.due("entered(0, 0)", x.entered(0, 0), 0);
                Check.due("peek(0)", x.peek(0), 0);
                x.step(500);
                Check.due("result()", x.result(), m == 0 ? 9 : m == 1 ? 0 : 8);
            }
        }
    }

    private static void startWithNumbersAlone() {
        Check.sentence("whose arguments must all be NUMBERs;");
        String[] types = {"number", "pair", "place", "array", "box", "object0"};
        for (String one : types) {
            for (String two : types) {
                for (String three : types) {
                    TypedEngine x = loaded("class", "method none " + one, "return", "method none " + one + " " + two, "return",
                        "method none " + one + " " + two + " " + three, "return", "method none", "return");
                    boolean first = one.equals("number");
                    boolean second = first && two.equals("number");
                    Check.due("start with " + one, x.start(0, 1, 2), first);
                    Check.due("start with " + one + " " + two, x.start(1, 1, 2), second);
                    Check.due("start with " + one + " " + two + " " + three, x.start(2, 1, 2), second && three.equals("number"));
                    Check.due("start with none", x.start(3, 1, 2), true);
                }
            }
        }
    }

    private static void theFirstTwoArguments() {
        Check.sentence("a and b are the first two, a third one is 0.");
        String[] lines = {"method none number number number", "arg 0 arg 1 arg 2 const 7 put 0 const 7 put 1 const 7 put 2 return",
            "method none number number", "arg 0 arg 1 return", "method none number", "arg 0 return"};
        for (int a : new int[] {0, 1, -1, MIN, MAX}) {
            for (int b : new int[] {0, 1, -1, MIN, MAX}) {
                TypedEngine x = loaded(lines);
                for (int m = 0; m <= 2; m++) {
                    for (int again = 0; again < 2; again++) {
                        x.start(m, a, b);
                        x.step(3 - m);
                        Check.due("how many", x.look(3), 3 - m);
                        Check.due("the first", x.peek(0), a);
                        Check.due("the second", x.peek(1), m <= 1 ? b : 0);
                        Check.due("the third", x.peek(2), 0);
                        x.step(500);
                    }
                }
            }
        }
    }

    private static void nothingHasBeenMade() {
        Check.sentence("Nothing has been made then.");
        TypedEngine x = loaded("class number", "method none number", "a: new 0 const 5 store 0.0 arg 0 const 1 sub dup put 0 if a return");
        for (int count : new int[] {40, 1, 41, 40, 39, 41, 2}) {
            Check.due("start", x.start(0, count, 0), true);
            Check.due("look(4) at first", x.look(4), 0);
            x.step(500);
            Check.due("look(4)", x.look(4), Math.min(count, 40));
            Check.due("state()", x.state(), count <= 40 ? 2 : 3);
        }
    }

    private static void startRefused() {
        Check.sentence("False if there is no such method, or it, or one that it can come to call, is not verified.");
        TypedEngine x = loaded("method none", "drop", "method none", "return", "method none", "call 1 return", "method none", "call 0 return",
            "method none", "call 3 return", "method none", "call 4 call 1 return");
        boolean[] want = {false, true, true, false, false, false};
        for (int m = 0; m <= 5; m++) {
            Check.due("start(" + m + ")", x.start(m, 0, 0), want[m]);
        }
        for (int m : new int[] {-1, 6, 7, 31, 32, 33, 256, MIN, MAX}) {
            Check.due("start(" + m + ")", x.start(m, 0, 0), false);
        }
        for (int bad = 0; bad <= 5; bad++) {
            chainWithOneBad(bad);
        }
        TypedEngine y = loaded("method none", "return call 5", "method none", "call 1 return", "method none", "call 3 return", "method none", "call 2 return",
            "method none number", "arg 0 if a return a: call 5 return", "method none", "drop");
        boolean[] other = {true, true, true, true, false, false};
        for (int m = 0; m <= 5; m++) {
            Check.due("start(" + m + ") with a call that can't be reached, of itself, of one another, that can be reached", y.start(m, 0, 0), other[m]);
        }
    }

    /** Each calls the next one; one of them is not verified. */
    private static void chainWithOneBad(int bad) {
        for (int step : new int[] {1, 5}) {
            String[] lines = new String[12];
            for (int m = 0; m <= 5; m++) {
                lines[2 * m] = "method none number";
                String call = "arg 0 if a arg 0 call " + (m + step) % 6 + " a: return";
                lines[2 * m + 1] = m == bad ? "drop" : call;
            }
            TypedEngine x = loaded(lines);
            for (int m = 0; m <= 5; m++) {
                Check.due("start(" + m + ") where " + bad + " is not verified", x.start(m, 1, 0), false);
                Check.due("verified(" + m + ")", x.verified(m), m != bad);
            }
            lines[2 * bad + 1] = "return";
            TypedEngine y = loaded(lines);
            for (int m = 0; m <= 5; m++) {
                Check.due("start(" + m + ") where all are verified", y.start(m, 1, 0), true);
            }
        }
    }

    private static void stepsUpToN() {
        Check.sentence("Does up to n steps: how many were done before the run was over.");
        for (int n : new int[] {0, 1, 2, 99, 100, 101, 500}) {
            TypedEngine x = loaded("method none", "nop ".repeat(99), "return");
            x.start(0, 0, 0);
            Check.due("step(" + n + ") of 100", x.step(n), Math.min(n, 100));
            Check.due("state() then", x.state(), n >= 100 ? 2 : 1);
            Check.due("place", x.look(1), n >= 100 ? -1 : n);
            Check.due("the rest", x.step(500), Math.max(100 - n, 0));
            Check.due("over", x.state(), 2);
            Check.due("of one that is over", x.step(500), 0);
            Check.due("of one that is over", x.step(0), 0);
        }
        TypedEngine y = loaded("method none", "const 1 throw");
        y.start(0, 0, 0);
        Check.due("of one that traps", y.step(500), 2);
        Check.due("of one that was trapped", y.step(500), 0);
        TypedEngine z = loaded("method none number", "a: arg 0 const 1 sub dup put 0 if a return");
        for (int n : new int[] {82, 83, 84}) {
            z.start(0, n, 0);
            int all = 6 * n + 1;
            Check.due(all + " steps", z.step(500), Math.min(all, 500));
            Check.due("state()", z.state(), all <= 500 ? 2 : 1);
            Check.due("the rest", z.step(500), all - Math.min(all, 500));
        }
    }

    private static void stepRefused() {
        Check.sentence("-1 if there is no run, or n is not 0 .. 500.");
        TypedEngine x = loaded("method none", "a: go a");
        int[] wrong = {-1, 501, -2, 502, 1000, MIN, MAX};
        for (int n : new int[] {0, 1, 500, -1, 501}) {
            Check.due("no run: step(" + n + ")", x.step(n), -1);
        }
        x.start(0, 0, 0);
        for (int n : wrong) {
            Check.due("step(" + n + ")", x.step(n), -1);
        }
        for (int n : new int[] {0, 1, 499, 500}) {
            Check.due("step(" + n + ")", x.step(n), n);
        }
        TypedEngine y = loaded("method none", "return");
        y.start(0, 0, 0);
        y.step(1);
        for (int n : wrong) {
            Check.due("a run that is over: step(" + n + ")", y.step(n), -1);
        }
        Check.due("a run that is over: step(500)", y.step(500), 0);
        y.load();
        Check.due("no run any more: step(0)", y.step(0), -1);
    }

    private static void states() {
        Check.sentence("0 no run, 1 it goes on, 2 it is over, 3 it was trapped.");
        TypedEngine x = new TypedEngine();
        Check.due("a new object", x.state(), 0);
        Asm.load(x, new Asm("method none number", "arg 0 if a return a: arg 0 throw").bytes());
        Check.due("loaded", x.state(), 0);
        for (int a = 0; a <= 1; a++) {
            x.start(0, a, 0);
            Check.due("started", x.state(), 1);
            int last = 3 + a;
            for (int i = 1; i <= last; i++) {
                x.step(1);
                Check.due("after step " + i + " of " + last, x.state(), i < last ? 1 : 2 + a);
            }
            x.step(1);
            Check.due("and then", x.state(), 2 + a);
        }
        x.load();
        Check.due("loaded again", x.state(), 0);
    }

    private static void result(String what, int a, int b, int want, String... lines) {
        TypedEngine x = loaded(lines);
        x.start(0, a, b);
        Check.due(what + ": at first", x.result(), 0);
        x.step(500);
        Check.due(what + ": state", x.state(), 2);
        Check.due(what, x.result(), want);
    }

    private static void results() {
        Check.sentence("Of a run that is over: the result, a NUMBER, or that of a PAIR's first one; 0 for other results or none.");
        for (int a : new int[] {0, 1, -1, MIN, MAX}) {
            for (int b : new int[] {0, 1, -1, MIN, MAX}) {
                result("a number", a, b, a, "method number number number", "arg 1 arg 0 return");
                result("a pair", a, b, a, "method pair number number", "arg 0 arg 1 pair return");
            }
            result("none", a, a, 0, "method none number", "arg 0 return");
            result("an array", a, a, 0, "method array number", "const 1 array dup const 0 arg 0 keep return");
            result("a box", a, a, 0, "method box number", "arg 0 arg 0 pair box return");
            result("an object", a, a, 0, "class number", "method object0 number", "new 0 dup arg 0 store 0.0 return");
            result("null", a, a, 0, "class number", "method object0 number", "null object0 return");
        }
    }

    private static void thrownAsResult() {
        Check.sentence("Of one that was trapped what was thrown.");
        for (int e : new int[] {0, 1, -1, 2, 3, 4, 5, 6, MIN, MAX}) {
            TypedEngine x = loaded("method number number", "const 9 arg 0 throw");
            x.start(0, e, 0);
            x.step(500);
            Check.due("state", x.state(), 3);
            Check.due("thrown", x.result(), e);
        }
    }

    private static void otherwiseZero() {
        Check.sentence("Otherwise 0.");
        TypedEngine x = loaded("method number", "const 9 const 8 return");
        Check.due("no run", x.result(), 0);
        x.start(0, 0, 0);
        for (int i = 0; i < 3; i++) {
            Check.due("it goes on", x.result(), 0);
            x.step(1);
        }
        Check.due("over", x.result(), 8);
        x.start(0, 0, 0);
        Check.due("begun anew", x.result(), 0);
        x.step(500);
        x.load();
        Check.due("no run any more", x.result(), 0);
    }

    private static void looks() {
        Check.sentence("what 0 the method that is active latest, 1 the place in its code, 2 how many are active, 3 how many types are on its stack; "
            + "of any run: 4 how many objects, arrays and boxes were made.");
        TypedEngine x = loaded("class", "method none number", "const 4 const 5 arg 0 if a return a: arg 0 const 1 sub call 5 new 0 return",
            "method none", "return", "method none", "return", "method none", "return", "method none", "return",
            "method none number", "new 0 arg 0 if a return a: const 0 array arg 0 const 1 sub call 5 return");
        x.start(0, 7, 0);
        int most = 0;
        for (int i = 0; i < 90 && x.state() == 1; i++) {
            most = Math.max(most, x.look(2));
            Check.due("the method", x.look(0), x.look(2) == 1 ? 0 : 5);
            Check.due("a step", x.step(1), 1);
        }
        Check.due("eight were active", most, 8);
        Check.due("made, of one that is over", x.look(4), 7 + 6 + 1);
        Check.due("state", x.state(), 2);
        TypedEngine y = loaded("method none", "const 1 ".repeat(8), "return");
        y.start(0, 0, 0);
        for (int i = 0; i <= 8; i++) {
            Check.due("on its stack", y.look(3), i);
            Check.due("place", y.look(1), 2 * i);
            y.step(1);
        }
        TypedEngine z = loaded("method none", "nop ".repeat(99), "return");
        z.start(0, 0, 0);
        z.step(99);
        Check.due("the last place of 100", z.look(1), 99);
    }

    private static void looksOfNone() {
        Check.sentence("-1 if there is none of that.");
        TypedEngine x = loaded("class", "method none number", "new 0 arg 0 if a return a: arg 0 throw");
        int[] none = {-1, 5, 6, 256, MIN, MAX};
        int[] all = {0, 1, 2, 3, 4};
        for (int what : all) {
            Check.due("no run: look(" + what + ")", x.look(what), -1);
        }
        for (int a = 0; a <= 1; a++) {
            x.start(0, a, 0);
            for (int what : none) {
                Check.due("it goes on: look(" + what + ")", x.look(what), -1);
            }
            Check.due("it goes on: look(2)", x.look(2), 1);
            x.step(500);
            Check.due("state", x.state(), 2 + a);
            for (int what : none) {
                Check.due("over: look(" + what + ")", x.look(what), -1);
            }
            for (int what : all) {
                Check.due("over: look(" + what + ")", x.look(what), what == 4 ? 1 : -1);
            }
        }
    }

    private static void peeks() {
        Check.sentence("Of a run that goes on: NUMBER i (0 the lowest) of the latest method's stack, 0 if that is none, or none of a number.");
        TypedEngine x = loaded("class number", "method none number number / number",
            "arg 0 arg 0 arg 1 pair spot 0 const 1 array arg 1 arg 1 pair box new 0 null object0 arg 1 call 1 return", "method none number", "nop arg 0 return");
        x.start(0, 33, 44);
        x.step(14);
        int[] want = {33, 0, 0, 0, 0, 0, 0, 44};
        Check.due("eight are there", x.look(3), 8);
        for (int i = 0; i <= 7; i++) {
            Check.due("peek(" + i + ")", x.peek(i), want[i]);
        }
        for (int i : new int[] {-1, 8, 9, 16, 256, MIN, MAX}) {
            Check.due("peek(" + i + ")", x.peek(i), 0);
        }
        x.step(1);
        for (int i = -1; i <= 8; i++) {
            Check.due("of the one that was called: peek(" + i + ")", x.peek(i), 0);
        }
        x.step(2);
        Check.due("of the one that was called", x.peek(0), 44);
        Check.due("of the one that was called, one more", x.peek(1), 0);
        x.step(1);
        Check.due("of the one that called", x.peek(0), 33);
        Check.due("of the one that called, what it gave", x.peek(7), 0);
        x.step(1);
        Check.due("over", x.peek(0), 0);
        TypedEngine y = loaded("method none", "const 6 dup throw");
        Check.due("no run", y.peek(0), 0);
        y.start(0, 0, 0);
        y.step(2);
        Check.due("before it traps", y.peek(1), 6);
        y.step(1);
        Check.due("trapped", y.peek(0), 0);
    }

    private static void entries() {
        Check.sentence("How often the handler of region r of method m was entered in this run; 0 if there is none.");
        String[] nested = {"region a b c catch", "region a d e catch", "region a f g finally"};
        String code = "s: nop a: arg 0 throw b: throw c: leave e d: drop leave e e: leave g f: done g: arg 0 const 1 sub dup put 0 if s return";
        TypedEngine x = loaded("method none", "return", "method none", "return", "method none", "return", "method none", "return", "method none", "return",
            "method none number", nested[0], nested[1], nested[2], code);
        x.start(5, 3, 0);
        for (int round = 0; round <= 3; round++) {
            for (int r = 0; r <= 2; r++) {
                Check.due("round " + round + ": entered(5, " + r + ")", x.entered(5, r), round);
            }
            // A round has 14 steps; behind the last one is the return.
            x.step(14);
        }
        Check.due("state", x.state(), 2);
        for (int r : new int[] {-1, 3, 4, 18, 256, MIN, MAX}) {
            Check.due("entered(5, " + r + ")", x.entered(5, r), 0);
        }
        for (int m : new int[] {-1, 0, 4, 6, 7, 256, MIN, MAX}) {
            for (int r = -1; r <= 3; r++) {
                Check.due("entered(" + m + ", " + r + ")", x.entered(m, r), 0);
            }
        }
        x.start(0, 0, 0);
        Check.due("in this run", x.entered(5, 0), 0);
        x.load();
        Check.due("no run", x.entered(5, 0), 0);
        TypedEngine y = loaded("method none", "region a b c finally", "nop a: const 1 throw b: done c: return");
        y.start(0, 0, 0);
        y.step(500);
        Check.due("trapped", y.state(), 3);
        Check.due("of one that was trapped", y.entered(0, 0), 1);
        Check.due("of a region that is none", y.entered(0, 1), 0);
    }
}
