import java.util.ArrayList;
import java.util.Arrays;
import java.util.List;

/** The document's sentences on what instructions, throws and leaves do: the last that goes well, and the first that doesn't. */
public final class RunBoundsTest {
    private static final int MIN = Integer.MIN_VALUE;
    private static final int MAX = Integer.MAX_VALUE;

    public static void main(String[] args) {
        asJavasInts();
        divisionByZero();
        ifNotZero();
        ifLess();
        sizesOfArrays();
        numbersOfArrays();
        nullThrows();
        nullDoesNotThrow();
        fortyThings();
        arrayLooksAtItsNumberFirst();
        eightActive();
        whatThrowsHasTaken();
        placesPoint();
        pairsOfTwo();
        thingsKeepTheirOwn();
        argumentsOfACall();
        eachActiveHasItsOwn();
        whereAThrowIsCaught();
        aCatchHasTheNumberAlone();
        aFinallyHasNone();
        noMoreRegions();
        throughAllThatAreActive();
        pendingIsGone();
        aLeaveEmptiesTheStack();
        whereALeaveGoes();
        aLeaveThroughThree();
        donesGoOn();
        Check.finish("RunBoundsTest");
    }

    private static void gives(String what, int want, int a, int b, String... lines) {
        ends(what, 2, want, a, b, lines);
    }

    private static void traps(String what, int want, int a, int b, String... lines) {
        ends(what, 3, want, a, b, lines);
    }

    private static TypedEngine ends(String what, int state, int want, int a, int b, String... lines) {
        TypedEngine x = new Asm(lines).engine();
        Check.due(what + ": start " + Arrays.toString(lines), x.start(0, a, b), true);
        x.step(500);
        x.step(500);
        Check.due(what + " with " + a + ", " + b + ": state", x.state(), state);
        Check.due(what + " with " + a + ", " + b, x.result(), want);
        return x;
    }

    private static String[] join(String[] before, String... behind) {
        List<String> all = new ArrayList<>(Arrays.asList(before));
        all.addAll(Arrays.asList(behind));
        return all.toArray(new String[0]);
    }

    private static final int[] SOME = {0, 1, -1, 2, -2, 3, 127, -128, 65535, 65536, MAX, MAX - 1, MIN, MIN + 1};

    private static void asJavasInts() {
        Check.sentence("7 add, 8 sub, 9 mul, 10 div: NUMBER NUMBER > NUMBER (as Java's ints; division by 0 THROWS 1)");
        for (int a : SOME) {
            for (int b : SOME) {
                String head = "method number number number";
                gives("add", a + b, a, b, head, "arg 0 arg 1 add return");
                gives("sub", a - b, a, b, head, "arg 0 arg 1 sub return");
                gives("mul", a * b, a, b, head, "arg 0 arg 1 mul return");
                if (b != 0) {
                    gives("div", a / b, a, b, head, "arg 0 arg 1 div return");
                }
            }
        }
        gives("the least by -1", MIN, MIN, -1, "method number number number", "arg 0 arg 1 div return");
        gives("one more than the most", MIN, MAX, 1, "method number number number", "arg 0 arg 1 add return");
        gives("one less than the least", MAX, MIN, 1, "method number number number", "arg 0 arg 1 sub return");
    }

    private static void divisionByZero() {
        Check.sentence("(as Java's ints; division by 0 THROWS 1)");
        for (int a : SOME) {
            traps("div by 0", 1, a, 0, "method number number number", "arg 0 arg 1 div return");
            gives("div by 1", a, a, 1, "method number number number", "arg 0 arg 1 div return");
        }
    }

    private static void ifNotZero() {
        Check.sentence("14 if d: NUMBER, goes if it is not 0");
        for (int a : SOME) {
            gives("if", a != 0 ? 2 : 1, a, 0, "method number number", "arg 0 if t const 1 return t: const 2 return");
        }
    }

    private static void ifLess() {
        Check.sentence("15 less d: NUMBER a, NUMBER b, goes if a is less than b");
        for (int a : SOME) {
            for (int b : SOME) {
                gives("less", a < b ? 2 : 1, a, b, "method number number number", "arg 0 arg 1 less t const 1 return t: const 2 return");
            }
        }
    }

    private static void sizesOfArrays() {
        Check.sentence("n below 0 or above 20 throws 3;");
        for (int n : new int[] {0, 1, 19, 20}) {
            gives("array of n numbers", n, n, 0, "method number number", "arg 0 array size return");
        }
        for (int n : new int[] {-1, 21, -20, 100, 256, 276, MIN, MAX}) {
            TypedEngine x = ends("array of n numbers", 3, 3, n, 0, "method number number", "arg 0 array size return");
            Check.due("none was made", x.look(4), 0);
        }
    }

    private static void numbersOfArrays() {
        Check.sentence("i that is none throws 3 (22 to 24);");
        for (int n : new int[] {0, 1, 2, 19, 20}) {
            for (int i : new int[] {MIN, -1, 0, n - 1, n, n + 1, 19, 20, 21, 256, MAX}) {
                boolean is = i >= 0 && i < n;
                String[] head = {"method number number number / array", "arg 0 array set 0"};
                ends("item", is ? 2 : 3, is ? 0 : 3, n, i, join(head, "get 0 arg 1 item return"));
                ends("keep", is ? 2 : 3, is ? 77 : 3, n, i, join(head, "get 0 arg 1 const 77 keep get 0 arg 1 item return"));
                ends("point", is ? 2 : 3, is ? 78 : 3, n, i, join(head, "get 0 arg 1 point const 78 save get 0 arg 1 point load return"));
            }
        }
        gives("the others stay", 0, 20, 0, "method number number / array number", "arg 0 array set 0 get 0 const 10 const 9 keep",
            "a: get 0 get 1 item if b go c b: get 1 const 10 sub if bad c: get 1 const 1 add dup set 1 const 20 less a const 0 return bad: const 1 return");
    }

    private static void nullThrows() {
        Check.sentence("Null where something is taken of it throws 2 (18, 19, 20, 22 to 25, 32);");
        String[] head = {"class number array box object0", "method none"};
        String[][] taking = {{"null object0 field 0.0", "new 0 field 0.0"}, {"null object0 field 0.3", "new 0 field 0.3"},
            {"null object0 const 1 store 0.0", "new 0 const 1 store 0.0"}, {"null object0 null array store 0.1", "new 0 null array store 0.1"},
            {"null object0 null object0 store 0.3", "new 0 null object0 store 0.3"}, {"null object0 at 0.0", "new 0 at 0.0"},
            {"null array const 0 item", "const 1 array const 0 item"}, {"null array const 0 const 1 keep", "const 1 array const 0 const 1 keep"},
            {"null array const 0 point", "const 1 array const 0 point"}, {"null array size", "const 0 array size"},
            {"null box open", "const 0 const 0 pair box open"}};
        for (String[] two : taking) {
            traps(two[0], 2, 0, 0, join(head, two[0], "return"));
            gives(two[1], 0, 0, 0, join(head, two[1], "return"));
        }
        for (int i : new int[] {-1, 0, 1, 20, MIN, MAX}) {
            traps("item of null", 2, i, 0, "method none number", "null array arg 0 item return");
            traps("keep of null", 2, i, 0, "method none number", "null array arg 0 const 1 keep return");
            traps("point of null", 2, i, 0, "method none number", "null array arg 0 point return");
        }
    }

    private static void nullDoesNotThrow() {
        Check.sentence("Null where something is taken of it throws 2");
        gives("null is put, set, stored, given and given back", 5, 0, 0, "class array box object0",
            "method number / array box object0", "null array dup drop set 0 get 0 drop null box set 1 null object0 set 2",
            "new 0 dup null array store 0.0 dup null box store 0.1 null object0 store 0.2",
            "get 0 get 1 get 2 call 1 drop const 5 return",
            "method array array box object0", "null array put 0 arg 1 put 1 arg 2 put 2 arg 0 return");
    }

    private static final String[] MAKERS = {"new 0", "const 20 array", "const 0 array", "const 1 const 2 pair box"};

    private static void fortyThings() {
        Check.sentence("a new object, array or box when there are 40 throws 4 (21 looks at n first);");
        for (String maker : MAKERS) {
            for (String last : MAKERS) {
                for (int count : new int[] {0, 38, 39, 40, 41}) {
                    String[] lines = {"class", "method number number", "arg 0 if a go b", "a: " + maker + " drop arg 0 const 1 sub dup put 0 if a", "b: " + last + " drop const 9 return"};
                    boolean goesWell = count + 1 <= 40;
                    TypedEngine x = ends(count + " times " + maker + ", then " + last, goesWell ? 2 : 3, goesWell ? 9 : 4, count, 0, lines);
                    Check.due(count + " times " + maker + ", then " + last + ": made", x.look(4), Math.min(count + 1, 40));
                }
            }
        }
        traps("caught once, and then again", 4, 0, 0, "class", "method none", "region a b c catch",
            "nop a: new 0 drop const 1 if a leave c", "b: drop leave c", "c: new 0 return");
    }

    private static void arrayLooksAtItsNumberFirst() {
        Check.sentence("(21 looks at n first)");
        for (int n : new int[] {-1, 0, 20, 21}) {
            boolean is = n >= 0 && n <= 20;
            traps("array when there are 40", is ? 4 : 3, 40, n, "class", "method none number number", "a: new 0 drop arg 0 const 1 sub dup put 0 if a arg 1 array return");
            ends("array when there are 39", is ? 2 : 3, is ? 0 : 3, 39, n, "class", "method none number number", "a: new 0 drop arg 0 const 1 sub dup put 0 if a arg 1 array return");
        }
    }

    private static void eightActive() {
        Check.sentence("a call when 8 methods are active throws 5.");
        String[] own = {"method number number", "arg 0 if a const 1 return a: arg 0 const 1 sub call 0 const 1 add return"};
        String[] other = {"method number number", "arg 0 if a const 1 return a: arg 0 const 1 sub call 1 const 1 add return",
            "method number number", "arg 0 if a const 1 return a: arg 0 const 1 sub call 0 const 1 add return"};
        for (int calls = 0; calls <= 9; calls++) {
            ends(calls + " calls", calls <= 7 ? 2 : 3, calls <= 7 ? calls + 1 : 5, calls, 0, own);
            ends(calls + " calls of another", calls <= 7 ? 2 : 3, calls <= 7 ? calls + 1 : 5, calls, 0, other);
        }
        gives("100 calls, each over before the next", 0, 100, 0, "method number number", "a: call 1 arg 0 const 1 sub dup put 0 if a arg 0 return", "method none", "return");
        gives("seven more each time", 21, 3, 0, "method number number / number", "a: const 6 call 1 get 0 add set 0 arg 0 const 1 sub dup put 0 if a get 0 return",
            "method number number", "arg 0 if a const 1 return a: arg 0 const 1 sub call 1 const 1 add return");
        TypedEngine x = ends("caught in the eighth", 2, 5, 7, 0, "method number number / number", "region a b c catch",
            "arg 0 if d go a d: arg 0 const 1 sub call 0 set 0 go e", "a: call 1 leave c", "b: set 0 leave c", "c: nop e: get 0 return", "method none", "return");
        Check.due("once", x.entered(0, 0), 1);
        gives("no throw in the seventh", 0, 6, 0, "method number number / number", "region a b c catch",
            "arg 0 if d go a d: arg 0 const 1 sub call 0 set 0 go e", "a: call 1 leave c", "b: set 0 leave c", "c: nop e: get 0 return", "method none", "return");
    }

    private static void whatThrowsHasTaken() {
        Check.sentence("What throws has taken what it takes.");
        String[][] throwing = {{"1", "const 4 const 0 div"}, {"2", "null object0 field 0.0"}, {"2", "null object0 const 4 store 0.0"}, {"2", "null object0 at 0.0"},
            {"2", "null array const 0 item"}, {"2", "null array const 0 const 1 keep"}, {"2", "null array const 0 point"}, {"2", "null array size"}, {"2", "null box open"},
            {"3", "const 1 array const 1 item"}, {"3", "const 1 array const 1 const 4 keep"}, {"3", "const 1 array const -1 point"}, {"3", "const 21 array"},
            {"9", "const 9 throw"}, {"7", "const 4 call 1"}};
        for (String[] one : throwing) {
            for (int below = 0; below <= 4; below++) {
                TypedEngine x = new Asm("class number", "method none", "region a b c catch", "nop a: nop", "const 5 ".repeat(below), one[1],
                    one[1].endsWith("throw") ? "" : "leave c", "b: nop leave c", "c: return", "method none number", "const 7 throw").engine();
                Check.due("start", x.start(0, 0, 0), true);
                for (int i = 0; i < 30 && x.entered(0, 0) == 0; i++) {
                    x.step(1);
                }
                Check.due(one[1] + " with " + below + " below: one on the stack", x.look(3), 1);
                Check.due(one[1] + " with " + below + " below: what was thrown", x.peek(0), Integer.parseInt(one[0]));
                Check.due(one[1] + " with " + below + " below: nothing else", x.peek(1), 0);
            }
        }
    }

    private static void placesPoint() {
        Check.sentence("26 load: PLACE > the NUMBER there 27 save: PLACE, NUMBER v: the number there becomes v");
        for (int v : new int[] {0, 1, -1, MIN, MAX}) {
            for (int k = 0; k <= 3; k++) {
                gives("a local " + k, v, v, 0, "method number number / number number number number", "spot " + k + " arg 0 save get " + k + " return");
                gives("a field " + k, v, v, 0, "class number number number number", "method number number / object0",
                    "new 0 set 0 get 0 at 0." + k + " arg 0 save get 0 field 0." + k + " return");
            }
            for (int i : new int[] {0, 1, 19}) {
                gives("number " + i + " of an array", v, v, i, "method number number number / array",
                    "const 20 array set 0 get 0 arg 1 point arg 0 save get 0 arg 1 item return");
            }
        }
        gives("of the latest but seven", 6, 6, 0, "method number number / number", "spot 0 const 6 call 1 get 0 return",
            "method none place number / number", "arg 1 if a arg 0 const 6 save return a: const 99 set 0 arg 0 arg 1 const 1 sub call 1 return");
    }

    private static void pairsOfTwo() {
        Check.sentence("28 pair: NUMBER a, NUMBER b > PAIR 29 first, 30 second: PAIR > NUMBER 31 box: PAIR > BOX 32 open: BOX > PAIR");
        for (int a : SOME) {
            for (int b : SOME) {
                gives("first", a, a, b, "method number number number", "arg 0 arg 1 pair first return");
                gives("second", b, a, b, "method number number number", "arg 0 arg 1 pair second return");
                gives("first of what was boxed", a, a, b, "method number number number", "arg 0 arg 1 pair box open first return");
                gives("second of what was boxed", b, a, b, "method number number number", "arg 0 arg 1 pair box open second return");
            }
        }
    }

    /** Forty things of one kind in a chain: each, the first and the fortieth too, has what was put into it. */
    private static void thingsKeepTheirOwn() {
        Check.sentence("a new object, array or box when there are 40 throws 4");
        gives("20 objects with a full array each", 20 * 20, 0, 0, "class object0 array number", "method number / object0 object0 number",
            "a: new 0 dup set 1 get 0 store 0.0 get 1 set 0 get 0 const 20 array store 0.1 get 2 const 1 add set 2 get 0 get 2 store 0.2 get 2 const 20 less a",
            "const 0 set 2 b: get 0 field 0.1 size get 2 add set 2 get 0 field 0.0 set 0 get 0 call 1 if b get 2 return",
            "method number object0", "region a b c catch", "a: arg 0 field 0.2 drop leave d", "b: drop leave c", "c: const 0 return d: const 1 return");
        gives("20 objects with a box each", 210, 0, 0, "class object0 box", "method number / object0 object0 number number",
            "a: new 0 dup set 1 get 0 store 0.0 get 1 set 0 get 2 const 1 add set 2 get 0 get 2 get 2 pair box store 0.1 get 2 const 20 less a",
            "b: get 0 field 0.1 open second get 3 add set 3 get 0 field 0.0 set 0 get 2 const 1 sub dup set 2 if b get 3 return");
        gives("the fortieth, an array", 20, 39, 0, "class", "method number number / array", "a: new 0 drop arg 0 const 1 sub dup put 0 if a",
            "const 20 array set 0 get 0 const 19 const 5 keep get 0 size return");
        gives("the fortieth, an array, its last number", 5, 39, 0, "class", "method number number / array", "a: new 0 drop arg 0 const 1 sub dup put 0 if a",
            "const 20 array set 0 get 0 const 19 const 5 keep get 0 const 19 item return");
    }

    private static void argumentsOfACall() {
        Check.sentence("33 call k: the arguments of method k, the first lowest > its result, if it has one");
        String told = "arg 0 const 10 mul arg 1 add const 10 mul arg 2 add return";
        gives("three arguments", 123, 0, 0, "method number", "const 1 const 2 const 3 call 1 return", "method number number number number", told);
        gives("three of six on the stack", 456, 0, 0, "method number", "const 1 const 2 const 3 const 4 const 5 const 6 call 1 return",
            "method number number number number", told);
        gives("what is below stays", 3, 0, 0, "method number", "const 1 const 2 const 3 const 4 const 5 const 6 call 1 drop return",
            "method number number number number", told);
        gives("no result", 3, 0, 0, "method number", "const 1 const 2 const 3 const 4 const 5 const 6 call 1 return",
            "method none number number number", "const 9 return");
        gives("no arguments", 9, 0, 0, "method number", "const 1 call 1 return", "method number", "const 9 return");
    }

    private static void eachActiveHasItsOwn() {
        Check.sentence("A RUN has a row of ACTIVE methods, each with its arguments, locals, stack and place in the code.");
        // The first array's twenty numbers, and the locals of all eight, are told apart.
        gives("the first array and 8 times 4 locals", 20, 7, 0,
            "method number number / array number number", "const 20 array set 0", "a: get 0 get 1 get 1 const 1 add keep get 1 const 1 add dup set 1 const 20 less a",
            "const 6 call 1 const 0 set 1", "b: get 0 get 1 item get 1 sub get 2 add set 2 get 1 const 1 add dup set 1 const 20 less b get 2 return",
            "method none number / number number number number", "const 90 set 0 const 91 set 1 const 92 set 2 const 93 set 3 arg 0 if a return a: arg 0 const 1 sub call 1 return");
        gives("locals of one that is called again", 4, 0, 0, "method number / number", "const 4 set 0 const 3 call 1 get 0 return",
            "method none number / number number number number", "arg 0 set 0 arg 0 set 3 arg 0 if a return a: arg 0 const 1 sub call 1 get 0 arg 0 sub if bad return bad: const 8 throw");
        gives("arguments of the one that calls", 12, 1, 2, "method number number number", "const 7 const 8 const 9 call 1 arg 0 const 10 mul arg 1 add return",
            "method none number number number", "const 5 put 0 const 5 put 1 const 5 put 2 return");
        gives("the stack of the one that calls", 7, 0, 0, "method number", "const 1 const 2 const 3 const 4 const 5 const 6 const 7 call 1 return",
            "method none", "const 9 const 9 const 9 const 9 const 9 const 9 const 9 const 9 return");
    }

    /** A region, a call of one that throws 6 in one of its zones; how often the handler was entered, and how the run ended. */
    private static void thrownIn(String zone, int entered, int state, int result, String... lines) {
        for (int kind = 0; kind <= 1; kind++) {
            String[] head = {"method number", "region a b c " + kind};
            String[] all = join(join(head, lines), "method none", "const 6 throw");
            for (int i = 0; i < all.length; i++) {
                all[i] = all[i].replace("END", kind == 0 ? "leave c" : "done");
            }
            boolean isPending = kind == 1 && entered > 0;
            TypedEngine x = ends("thrown " + zone + ", kind " + kind, isPending ? 3 : state, isPending ? 6 : result, 0, 0, all);
            Check.due("thrown " + zone + ", kind " + kind + ": entered", x.entered(0, 0), entered);
        }
    }

    private static void whereAThrowIsCaught() {
        Check.sentence("THROWN e there: of its regions in order those in whose part the instruction lies:");
        thrownIn("before FROM", 0, 3, 6, "call 1", "a: leave c", "b: nop END", "c: const 1 return");
        thrownIn("at FROM", 1, 2, 1, "nop", "a: call 1 leave c", "b: nop END", "c: const 1 return");
        thrownIn("at FROM, which is 0", 1, 2, 1, "a: call 1 leave c", "b: nop END", "c: const 1 return");
        thrownIn("by the last of the part", 1, 2, 1, "nop", "a: nop const 6 throw", "b: nop END", "c: const 1 return");
        thrownIn("at MIDDLE", 1, 3, 6, "nop", "a: const 5 throw", "b: call 1 END", "c: const 1 return");
        thrownIn("by the last of the handler", 1, 3, 6, "nop", "a: const 5 throw", "b: const 6 throw", "c: const 1 return");
        thrownIn("at END", 0, 3, 6, "go c", "a: leave c", "b: nop END", "c: call 1 const 1 return");
    }

    private static void aCatchHasTheNumberAlone() {
        Check.sentence("at a CATCH the stack becomes e alone, and it goes on at MIDDLE;");
        for (int e : SOME) {
            for (int below = 0; below <= 7; below++) {
                Asm asm = new Asm("method none number", "region a b c catch", "nop a: nop", "const 5 ".repeat(below), "arg 0 throw", "b: nop leave c", "c: return");
                TypedEngine x = asm.engine();
                x.start(0, e, 0);
                x.step(below + 4);
                Check.due("place", x.look(1), asm.at(0, "b"));
                Check.due("stack", x.look(3), 1);
                Check.due("e", x.peek(0), e);
                Check.due("entered", x.entered(0, 0), 1);
                Check.due("nothing is pending: the rest", x.step(9), 3);
                Check.due("over", x.state(), 2);
            }
        }
    }

    private static void aFinallyHasNone() {
        Check.sentence("at a FINALLY the stack becomes empty, it goes on at MIDDLE, and e is PENDING.");
        for (int e : SOME) {
            for (int below = 0; below <= 7; below++) {
                Asm asm = new Asm("method none number", "region a b c finally", "nop a: nop", "const 5 ".repeat(below), "arg 0 throw", "b: nop done", "c: return");
                TypedEngine x = asm.engine();
                x.start(0, e, 0);
                x.step(below + 4);
                Check.due("place", x.look(1), asm.at(0, "b"));
                Check.due("stack", x.look(3), 0);
                Check.due("entered", x.entered(0, 0), 1);
                Check.due("it goes on", x.state(), 1);
                Check.due("no result yet", x.result(), 0);
                Check.due("the rest", x.step(9), 2);
                Check.due("trapped", x.state(), 3);
                Check.due("by e", x.result(), e);
            }
        }
    }

    private static void noMoreRegions() {
        Check.sentence("if there is none, the run is over: TRAPPED by e.");
        String[] regions = {"region a b c catch", "region a d e catch", "region a f g catch"};
        String code = "nop a: leave c b: drop leave c c: leave e d: drop leave e e: leave g f: drop leave g g: arg 0 throw";
        for (int count = 0; count <= 3; count++) {
            String[] lines = join(new String[] {"method none number"}, Arrays.copyOf(regions, count));
            for (int e : SOME) {
                traps("behind " + count + " regions", e, e, 0, join(lines, count == 0 ? "arg 0 throw" : code));
            }
        }
        String[] finallies = {"region a b c finally", "region a d e finally", "region a f g finally"};
        for (int count = 1; count <= 3; count++) {
            String[] ends = {"c: return", "c: leave e d: done e: return", "c: leave e d: done e: leave g f: done g: return"};
            String[] lines = join(new String[] {"method none number"}, Arrays.copyOf(finallies, count));
            TypedEngine x = ends("within " + count + " finallies", 3, -9, -9, 0, join(lines, "nop a: arg 0 throw b: done " + ends[count - 1]));
            for (int r = 0; r <= 3; r++) {
                Check.due("entered(0, " + r + ") of " + count, x.entered(0, r), r < count ? 1 : 0);
            }
        }
    }

    private static void throughAllThatAreActive() {
        Check.sentence("If there is no (more) such region, the method is over, and e is thrown at the call of the one that called it;");
        for (int calls = 0; calls <= 7; calls++) {
            String[] lines = {"method none number", "region a b c finally", "nop a: arg 0 if n const 77 throw n: arg 0 const 1 sub call 0 leave c", "b: done", "c: return"};
            TypedEngine x = ends(calls + " calls", 3, 77, calls, 0, lines);
            Check.due(calls + " calls: entered", x.entered(0, 0), calls + 1);
            String[] caught = {"method number number / number", "region a b c catch", "a: arg 0 call 1 leave c", "b: set 0 leave c", "c: get 0 return",
                "method none number", "arg 0 if n const 77 throw n: arg 0 const 1 sub call 1 return"};
            TypedEngine y = ends(calls + " calls, caught by the first", 2, calls <= 6 ? 77 : 5, calls, 0, caught);
            Check.due(calls + " calls: entered", y.entered(0, 0), 1);
        }
        TypedEngine z = new Asm("method number / number", "region a b c catch", "a: const 1 const 2 call 1 leave c", "b: set 0 leave c", "c: get 0 return",
            "method none", "const 3 const 4 call 2 return", "method none", "const 5 throw").engine();
        z.start(0, 0, 0);
        z.step(7);
        Check.due("three are active", z.look(2), 3);
        z.step(1);
        Check.due("one is active", z.look(2), 1);
        Check.due("the first", z.look(0), 0);
        Check.due("at MIDDLE", z.look(1), 8);
        Check.due("with e alone", z.look(3), 1);
        Check.due("which is 5", z.peek(0), 5);
    }

    private static void pendingIsGone() {
        Check.sentence("What is pending for handlers in which the instruction lies, but that MIDDLE does not, is gone.");
        // The first throw is pending in the inner handler as that throws anew; it is never seen again.
        TypedEngine x = ends("thrown anew in a handler", 2, 8, 0, 0, "method number / number", "region a b c finally", "region a d e catch",
            "nop a: const 7 throw", "b: const 8 throw", "c: leave e", "d: set 0 leave e", "e: get 0 return");
        Check.due("entered once", x.entered(0, 0), 1);
        ends("a leave that was pending", 2, 18, 0, 0, "method number / number", "region a b c finally", "region a d e catch",
            "nop a: leave g", "b: const 8 throw", "c: leave e", "g: const 1 throw", "d: const 10 add set 0 leave e", "e: get 0 return");
        TypedEngine z = ends("in it again, by a leave", 2, 5, 0, 0, "method number number / number", "region a b c finally", "region a d e catch",
            "s: nop a: arg 0 if l const 7 throw l: leave e", "b: arg 0 if n const 8 throw n: done", "c: leave e", "d: drop const 1 put 0 leave s", "e: const 5 return");
        Check.due("entered twice", z.entered(0, 0), 2);
        Check.due("caught once", z.entered(0, 1), 1);
        Check.sentence("but that MIDDLE does not, is gone.");
        ends("caught within the handler it stays", 3, 7, 0, 0, "method number / number", "region f g h catch", "region a b c finally",
            "nop a: const 7 throw", "b: nop f: const 8 throw", "g: drop leave h", "h: done", "c: get 0 return");
        ends("a leave stays as well", 2, 3, 0, 0, "method number / number", "region f g h catch", "region a b c finally",
            "nop a: leave t", "b: nop f: const 8 throw", "g: drop leave h", "h: done", "c: const 2 return t: const 3 return");
    }

    private static void aLeaveEmptiesTheStack() {
        Check.sentence("LEAVE to a target: the stack becomes empty;");
        for (int count = 0; count <= 8; count++) {
            String pushes = "const 6 ".repeat(count);
            Asm plain = new Asm("method none", pushes + "leave t", "nop t: nop return");
            Asm kept = new Asm("method none", "region a t c finally", "a: nop " + pushes + "leave c", "t: nop done", "c: return");
            for (Asm asm : new Asm[] {plain, kept}) {
                TypedEngine x = asm.engine();
                x.start(0, 0, 0);
                x.step(asm == plain ? count : count + 1);
                Check.due("before it", x.look(3), count);
                x.step(1);
                Check.due("the stack with " + count, x.look(3), 0);
                Check.due("peek(0) with " + count, x.peek(0), 0);
                Check.due("place with " + count, x.look(1), asm.at(0, "t"));
            }
        }
    }

    private static void whereALeaveGoes() {
        Check.sentence("the first FINALLY in whose part the instruction lies, but not the target, is entered at MIDDLE, and the leave is PENDING; "
            + "if there is none, it goes on at the target.");
        // How often the handler is entered; the code before FROM, in the part, in the handler and behind END.
        String[][] zones = {
            {"0", "leave t nop t: go e", "a: leave c", "", "e: nop"},
            {"1", "nop", "a: leave c", "", ""},
            {"1", "nop", "a: leave t nop t: nop leave c", "", ""},
            {"2", "s: arg 0 const 1 sub dup put 0 if a go e", "a: leave s", "", "e: nop"},
            {"1", "nop", "a: leave c", "leave t nop t: nop", ""},
            {"1", "nop", "a: leave c", "", "leave t nop t: nop"}};
        for (String[] zone : zones) {
            TypedEngine x = ends("a leave " + Arrays.toString(zone), 2, 9, 3, 0, "method number number", "region a b c finally",
                zone[1], zone[2], "b: nop", zone[3], "done", "c: nop", zone[4], "const 9 return");
            Check.due("entered", x.entered(0, 0), Integer.parseInt(zone[0]));
        }
        TypedEngine y = ends("no CATCH is entered by a leave", 2, 9, 0, 0, "method number", "region a b c catch", "nop a: const 1 const 2 leave c", "b: drop leave c", "c: const 9 return");
        Check.due("entered", y.entered(0, 0), 0);
    }

    private static void aLeaveThroughThree() {
        Check.sentence("LEAVE to a target: the stack becomes empty; of the regions in order");
        String[] ends = {"c", "e", "g"};
        for (int mask = 0; mask < 8; mask++) {
            for (int out = 0; out <= 3; out++) {
                String target = out == 0 ? "i" : ends[out - 1];
                String[] lines = {"method number / number"};
                String[] names = {"a b c ", "a d e ", "a f g "};
                String[] handlers = new String[3];
                int want = 0;
                for (int r = 0; r < 3; r++) {
                    boolean isFinally = (mask >> r & 1) == 1;
                    lines = join(lines, "region " + names[r] + (isFinally ? "finally" : "catch"));
                    String mark = "get 0 const 10 mul const " + (r + 1) + " add set 0 ";
                    handlers[r] = isFinally ? mark + "done" : "drop leave " + ends[r];
                    want = isFinally ? 10 * want + r + 1 : want;
                }
                lines = join(lines, "nop a: const 4 const 5 leave " + target + " i: leave c", "b: " + handlers[0], "c: nop leave e", "d: " + handlers[1],
                    "e: nop leave g", "f: " + handlers[2], "g: get 0 return");
                TypedEngine x = ends("finallies " + mask + ", out of " + out, 2, want, 0, 0, lines);
                for (int r = 0; r < 3; r++) {
                    Check.due("entered " + r, x.entered(0, r), mask >> r & 1);
                }
            }
        }
    }

    private static void donesGoOn() {
        Check.sentence("DONE: what is pending for its handler goes on, with the regions behind that one in order: e is thrown, or the leave goes on, "
            + "as if from the instruction from where it came.");
        String[] names = {"a b c ", "a d e ", "a f g "};
        for (int mask = 0; mask < 8; mask++) {
            String[] lines = {"method number / number number"};
            String[] bodies = new String[3];
            int want = 0;
            boolean isCaught = false;
            String[] ends = {"c", "e", "g"};
            for (int r = 0; r < 3; r++) {
                boolean isFinally = (mask >> r & 1) == 1;
                lines = join(lines, "region " + names[r] + (isFinally ? "finally" : "catch"));
                String mark = "get 0 const 10 mul const " + (r + 1) + " add set 0 ";
                bodies[r] = isFinally ? mark + "done" : "set 1 " + mark + "leave " + ends[r];
                // Once a catch has it, the code leaves each of the outer regions by itself.
                want = isCaught && !isFinally ? want : 10 * want + r + 1;
                isCaught = isCaught || !isFinally;
            }
            lines = join(lines, "nop a: const 4 const 50 throw", "b: " + bodies[0], "c: nop leave e", "d: " + bodies[1], "e: nop leave g", "f: " + bodies[2],
                "g: get 1 const 100 mul get 0 add return");
            ends("finallies " + mask, isCaught ? 2 : 3, isCaught ? 5000 + want : 50, 0, 0, lines);
        }
    }
}
