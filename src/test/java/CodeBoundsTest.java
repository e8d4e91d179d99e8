import java.util.ArrayList;
import java.util.Arrays;
import java.util.List;

/** The document's sentences on instructions and on verified methods: the last that is allowed, and the first that isn't. */
public final class CodeBoundsTest {
    public static void main(String[] args) {
        numbersAsBytes();
        distancesAsBytes();
        distancesToBothEnds();
        whereItGoesIsOneThatBegins();
        typesOfNull();
        fieldsByNumber();
        placesOfNumbersAlone();
        whatIsNamed();
        whatIsTaken();
        atMostEight();
        justOneStack();
        nextWithinTheCode();
        allAreTold();
        theCodeEndsWithOne();
        partAndHandler();
        orderOfARegion();
        endOfARegion();
        beginningsOfARegion();
        twoRegions();
        threeRegions();
        whatCanBeReached();
        stacksOfAMiddle();
        goesBetweenZones();
        leavesBetweenZones();
        anEmptyStackAtFrom();
        fromOfSeveral();
        returnsOutsideOfRegions();
        donesInHandlers();
        anythingAtALeave();
        Check.finish("CodeBoundsTest");
    }

    /** Whether method 0 of these is verified. */
    private static void due(String what, boolean want, String... lines) {
        Check.due(what + " " + Arrays.toString(lines), new Asm(lines).engine().verified(0), want);
    }

    private static String[] join(String[] before, String... behind) {
        List<String> all = new ArrayList<>(Arrays.asList(before));
        all.addAll(Arrays.asList(behind));
        return all.toArray(new String[0]);
    }

    private static String times(int count, String words) {
        return (words + " ").repeat(count);
    }

    private static void numbersAsBytes() {
        Check.sentence("A NUMBER k or d is taken as a byte -128 .. 127;");
        for (int k = 0; k <= 255; k++) {
            TypedEngine x = new Asm("method number", "byte 1 byte " + k, "return").engine();
            x.start(0, 0, 0);
            x.step(2);
            Check.due("const with byte " + k, x.result(), k <= 127 ? k : k - 256);
        }
    }

    /** A jump at place 50 of code that is all nops, its last instruction a go back. */
    private static TypedEngine jumpWith(int op, int d) {
        String take = op == 14 ? "const 1" : op == 15 ? "const 1 const 2" : "";
        int used = op == 14 ? 2 : op == 15 ? 4 : 0;
        return new Asm("method none", times(50 - used, "nop"), take + " byte " + op + " byte " + d, times(46, "nop"), "byte 13 byte 254").engine();
    }

    private static void distancesAsBytes() {
        Check.sentence("d goes to the instruction at d more than the place behind this instruction.");
        for (int op : new int[] {13, 14, 15, 36}) {
            int used = op == 14 ? 2 : op == 15 ? 4 : 0;
            for (int d = 0; d <= 255; d++) {
                int target = 52 + (d <= 127 ? d : d - 256);
                boolean begins = target >= 0 && target <= 98 && target != 51;
                // Within the consts before it the stack would not be the one that is left.
                boolean inConsts = target > 50 - used && target <= 50;
                TypedEngine x = jumpWith(op, d);
                Check.due(Asm.NAMES[op] + " with byte " + d + ": verified", x.verified(0), begins && !inConsts);
                if (x.start(0, 0, 0)) {
                    int before = op == 14 ? 49 : op == 15 ? 48 : 50;
                    Check.due("steps before", x.step(before), before);
                    Check.due("place of the jump", x.look(1), 50);
                    x.step(1);
                    Check.due(Asm.NAMES[op] + " with byte " + d + ": place", x.look(1), target);
                }
            }
        }
    }

    private static void distancesToBothEnds() {
        Check.sentence("d goes to the instruction at d more than the place behind this instruction.");
        for (int op : new int[] {13, 36}) {
            String name = Asm.NAMES[op] + " ";
            due("to the last byte of 100", true, "method none", name + "99", times(97, "nop"), "return");
            due("to behind the last byte of 100", false, "method none", name + "100", times(97, "nop"), "return");
            due("from the last bytes of 100 to 0", true, "method none", times(98, "nop"), name + "0");
            due("from the last bytes of 100 to before 0", false, "method none", times(98, "nop"), name + "-1");
            due("to itself", true, "method none", name + "0");
            due("127 on", false, "method none", "byte " + op + " byte 127", times(97, "nop"), "return");
            due("128 back", false, "method none", times(97, "nop"), "byte " + op + " byte 128", "return");
        }
    }

    private static void whereItGoesIsOneThatBegins() {
        Check.sentence("and every next instruction begins within the code.");
        for (String op : new String[] {"go", "leave", "const 0 if", "const 0 const 1 less"}) {
            due(op + " to a beginning", true, "method none", op + " t", "nop", "t: const 34 drop return");
            due(op + " to a second byte", false, "method none", op + " t", "nop", "byte 1 t: byte 34 drop return");
        }
    }

    private static void typesOfNull() {
        Check.sentence("16 null k > null, of type k, which is 4, 5 or that of an object");
        for (int classes = 0; classes <= 4; classes++) {
            String[] head = new String[classes + 1];
            Arrays.fill(head, "class");
            head[classes] = "method none";
            for (int k = 0; k <= 255; k++) {
                boolean is = k == 4 || k == 5 || k >= 8 && k < 8 + classes;
                TypedEngine x = new Asm(join(head, "byte 16 byte " + k, "return")).engine();
                Check.due("null " + k + " with " + classes + " classes", x.verified(0), is);
                Check.due("its type", x.type(0, 2, 0), is ? k : 0);
            }
        }
    }

    private static void fieldsByNumber() {
        Check.sentence("with k = 4 * c + f");
        int[] counts = {4, 0, 1, 4};
        String[] head = {"class number number number number", "class", "class number", "class number number number number", "method none"};
        for (int k = 0; k <= 255; k++) {
            for (int c = 0; c <= 3; c++) {
                boolean is = k / 4 == c && k % 4 < counts[c];
                due("field " + k + " of class " + c, is, join(head, "new " + c + " byte 18 byte " + k + " return"));
                due("store " + k + " of class " + c, is, join(head, "new " + c + " const 1 byte 19 byte " + k + " return"));
                due("at " + k + " of class " + c, is, join(head, "new " + c + " byte 20 byte " + k + " return"));
            }
        }
        int value = 0;
        for (int f = 0; f <= 3; f++) {
            value = 10 * value + f + 1;
        }
        TypedEngine x = new Asm("class", "class", "class", "class number number number number", "method number / object3",
            "new 3 set 0 get 0 const 1 byte 19 byte 12 get 0 const 2 byte 19 byte 13 get 0 const 3 byte 19 byte 14 get 0 const 4 byte 19 byte 15",
            "get 0 byte 18 byte 12 const 10 mul get 0 byte 18 byte 13 add const 10 mul get 0 byte 18 byte 14 add const 10 mul",
            "get 0 byte 20 byte 15 load add return").engine();
        x.start(0, 0, 0);
        x.step(500);
        Check.due("four fields of the last class", x.result(), value);
    }

    private static void placesOfNumbersAlone() {
        Check.sentence("4 spot k > PLACE of local k, a NUMBER");
        String[] types = {"number", "pair", "array", "box", "object0"};
        for (String type : types) {
            due("spot of a local, " + type, type.equals("number"), "class", "method none / " + type, "spot 0 return");
        }
        Check.sentence("20 at: OBJECT > PLACE of its field, a NUMBER; likewise");
        for (String type : types) {
            due("at of a field, " + type, type.equals("number"), "class " + type, "method none", "new 0 at 0.0 return");
        }
    }

    private static void whatIsNamed() {
        Check.sentence("what it names is there;");
        for (int count = 0; count <= 4; count++) {
            String numbers = times(count, "number");
            for (int k = 0; k <= 255; k++) {
                due("get " + k + " of " + count, k < count, "method none / " + numbers, "byte 2 byte " + k + " return");
                due("set " + k + " of " + count, k < count, "method none / " + numbers, "const 1 byte 3 byte " + k + " return");
                due("spot " + k + " of " + count, k < count, "method none / " + numbers, "byte 4 byte " + k + " return");
                if (count <= 3) {
                    due("arg " + k + " of " + count, k < count, "method none " + numbers, "byte 5 byte " + k + " return");
                    due("put " + k + " of " + count, k < count, "method none " + numbers, "const 1 byte 6 byte " + k + " return");
                }
                String[] head = new String[count + 1];
                Arrays.fill(head, "class");
                head[count] = "method none";
                due("new " + k + " of " + count, k < count, join(head, "byte 17 byte " + k + " return"));
            }
        }
        for (int count = 1; count <= 6; count++) {
            for (int k = 0; k <= 255; k++) {
                String[] lines = {"method none", "byte 33 byte " + k + " return"};
                for (int m = 1; m < count; m++) {
                    lines = join(lines, "method none", "return");
                }
                due("call " + k + " of " + count, k < count, lines);
            }
        }
    }

    private static void whatIsTaken() {
        Check.sentence("with that it finds what it takes;");
        String[] head = {"class number", "class number", "method number pair place / number array box object0"};
        String[][] takes = {{"set 0", "const 1"}, {"put 0", "arg 0"}, {"add", "const 1 const 1"}, {"sub", "const 1 const 1"},
            {"mul", "const 1 const 1"}, {"div", "const 1 const 1"}, {"dup", "const 1"}, {"drop", "const 1"}, {"if t", "const 1"},
            {"less t", "const 1 const 1"}, {"field 0.0", "get 3"}, {"store 0.0", "get 3 const 1"}, {"at 0.0", "get 3"}, {"array", "const 1"},
            {"item", "get 1 const 1"}, {"keep", "get 1 const 1 const 1"}, {"point", "get 1 const 1"}, {"size", "get 1"}, {"load", "arg 1"},
            {"save", "arg 1 const 1"}, {"pair", "const 1 const 1"}, {"first", "arg 0"}, {"second", "arg 0"}, {"box", "arg 0"}, {"open", "get 2"},
            {"call 0", "arg 0 arg 1"}};
        for (String[] one : takes) {
            String[] pushes = one[1].split("(?<=\\d) ");
            due("all that it takes", true, join(head, one[1], one[0], "t: const 1 return"));
            for (int lacking = 1; lacking <= pushes.length; lacking++) {
                String less = String.join(" ", Arrays.copyOfRange(pushes, lacking, pushes.length));
                due(lacking + " less than it takes", false, join(head, less, one[0], "t: const 1 return"));
            }
            boolean any = one[0].equals("dup") || one[0].equals("drop");
            due("an object of another class on top", any, join(head, one[1], "new 1", one[0], "t: const 1 return"));
        }
        due("a return with its result", true, "method number", "const 1 return");
        due("a return without its result", false, "method number", "nop return");
        due("a throw with a number", true, "method none", "const 1 throw");
        due("a throw with none", false, "method none", "nop throw");
        due("a throw of another type", false, "method none", "null array throw");
    }

    private static void atMostEight() {
        Check.sentence("has just one stack, a row of types, at most 8, with which it is reached;");
        String[] pushes = {"const 1", "get 0", "spot 0", "arg 0", "null array", "new 0", "call 1"};
        for (String push : pushes) {
            for (int below = 0; below <= 9; below++) {
                due(below + " and " + push, below + 1 <= 8, "class", "method none pair / number", times(below, "const 2"), push, "return",
                    "method box", "null box return");
            }
        }
        for (int below = 1; below <= 9; below++) {
            due(below + " and dup", below + 1 <= 8, "method none", times(below, "const 2"), "dup", "return");
        }
        due("one taken and one put at 8", true, "method none", times(8, "const 2"), "array size", "return");
        due("two taken and one put at 8, then one more", true, "method none", times(8, "const 2"), "add const 1", "return");
        due("two taken and one put at 8, then two more", false, "method none", times(8, "const 2"), "add const 1 const 1", "return");
        due("a call that takes three and puts one at 8", true, "method none", times(8, "const 2"), "call 1", "return",
            "method number number number number", "const 1 return");
        Asm asm = new Asm("method none", times(8, "const 2"), "t: return");
        Check.due("depth of eight", asm.engine().depth(0, asm.at(0, "t")), 8);
    }

    private static void justOneStack() {
        Check.sentence("every instruction that can be reached has just one stack");
        String[] pushes = {"const 1", "arg 1", "arg 2", "null array", "null box", "null object0", "null object1"};
        for (String one : pushes) {
            for (String other : pushes) {
                due("two ways to one place", one.equals(other), "class", "class", "method none number pair place",
                    "arg 0 if a", one, "go b", "a:", other, "b: drop return");
                due("two ways, below another", one.equals(other), "class", "class", "method none number pair place",
                    "arg 0 if a", one, "const 1 go b", "a:", other, "const 1 b: drop drop return");
            }
        }
        for (int one = 0; one <= 8; one++) {
            for (int other = 0; other <= 8; other++) {
                due("two ways, " + one + " and " + other, one == other, "method none number", "arg 0 if a", times(one, "const 1"), "go b",
                    "a: nop", times(other, "const 1"), "b: return");
            }
        }
        due("a loop that leaves one more", false, "method none", "a: const 1 const 1 if a return");
        due("a loop that leaves one less", false, "method none", "const 1 const 1 a: drop const 1 if a return");
        due("a loop that leaves the same", true, "method none", "const 1 a: drop const 1 const 1 if a return");
    }

    private static void nextWithinTheCode() {
        Check.sentence("and every next instruction begins within the code.");
        String[] last = {"nop", "const 1", "get 0", "const 1 set 0", "spot 0", "const 1 dup", "const 1 drop", "null array", "new 0", "call 1",
            "null array size", "const 1 const 2 pair", "const 1 if 0", "const 1 const 2 less 0"};
        for (String op : last) {
            due("last is " + op, false, "class", "method none / number", op, "method none", "return");
            due("last but one is " + op, true, "class", "method none / number", op, "return", "method none", "return");
        }
        String[] ends = {"return", "const 1 throw", "go 0", "leave 0"};
        for (String op : ends) {
            due("last is " + op, true, "method none", op);
        }
        due("last is a done", true, "method none", "region a b c finally", "go a", "x: return", "a: leave x", "b: done", "c:");
    }

    private static void allAreTold() {
        Check.sentence("all must be of those told above, and the code must end with one;");
        for (int op = 0; op <= 255; op++) {
            due("a byte that can't be reached " + op, op <= 37, "method none", "return byte " + op + " nop nop");
            due("a byte that is reached " + op, op == 34, "method none", "byte " + op);
            due("a second byte " + op, true, "method none", "return byte 1 byte " + op + " nop");
        }
    }

    private static void theCodeEndsWithOne() {
        Check.sentence("Instructions begin at 0, and behind each other one as it lies there, also where none can be reached;");
        for (int op = 0; op <= 37; op++) {
            boolean two = op >= 1 && op <= 6 || op >= 13 && op <= 20 || op == 33 || op == 36;
            due("the last byte is " + op, !two, "method none", "return byte " + op);
            due("the last byte but one is " + op, two, "method none", "return byte " + op + " byte 200");
            due("a one of two bytes cut at 100, " + op, !two, "method none", "return", times(98, "nop"), "byte " + op);
        }
    }

    /** Regions over one-byte instructions 0 .. 8, of which but the first none can be reached. */
    private static boolean isWellMade(int size, int[]... regions) {
        String[] lines = {"method none"};
        for (int[] region : regions) {
            lines = join(lines, "region " + region[0] + " " + region[1] + " " + region[2] + " catch");
        }
        return new Asm(join(lines, times(size, "return"))).engine().verified(0);
    }

    private static void partAndHandler() {
        Check.sentence("A REGION has a PART that is kept, from FROM to before MIDDLE, and a HANDLER, from MIDDLE to before END.");
        // MIDDLE is reached as soon as a place of the part is.
        String[][] reached = {{"s: leave s a: nop b: done c: return", "-1"}, {"nop a: leave a b: done c: return", "0"}, {"go c a: nop b: done c: leave c", "-1"}};
        for (String[] one : reached) {
            Asm asm = new Asm("method none", "region a b c finally", one[0]);
            Check.due(one[0] + ": verified", asm.engine().verified(0), true);
            Check.due(one[0] + ": depth of MIDDLE", asm.engine().depth(0, asm.at(0, "b")), Integer.parseInt(one[1]));
        }
        due("a done, the last before END", true, "method none", "region a b c finally", "a: leave c b: nop done c: return");
        due("a done at MIDDLE", true, "method none", "region a b c finally", "a: leave c b: done c: return");
        due("a done, the last before MIDDLE", false, "method none", "region a b c finally", "a: nop done b: done c: return");
        due("a done at END", false, "method none", "region a b c finally", "a: leave c b: done c: done");
        due("a return at END", true, "method none", "region a b c finally", "a: leave c b: done c: return");
        due("a return, the last before FROM", true, "method none number", "region a b c finally", "arg 0 if a return a: leave c b: done c: return");
    }

    private static void orderOfARegion() {
        Check.sentence("Regions are well made if FROM < MIDDLE < END, not more than the bytes of the code;");
        for (int from = 1; from <= 9; from++) {
            for (int middle = 0; middle <= 9; middle++) {
                for (int end = 0; end <= 9; end++) {
                    boolean is = from < middle && middle < end && end <= 8;
                    Check.due("region " + from + " " + middle + " " + end + " of 8 bytes", isWellMade(8, new int[] {from, middle, end}), is);
                }
            }
        }
        Check.due("END 100 of 100 bytes", isWellMade(100, new int[] {98, 99, 100}), true);
        Check.due("END 101 of 100 bytes", isWellMade(100, new int[] {98, 99, 101}), false);
        Check.due("END 255 of 100 bytes", isWellMade(100, new int[] {98, 99, 255}), false);
        Check.due("MIDDLE 100 of 100 bytes", isWellMade(100, new int[] {98, 100, 101}), false);
        Check.due("FROM 100 of 100 bytes", isWellMade(100, new int[] {100, 101, 102}), false);
        due("FROM 0", true, "method none", "region 0 2 3 catch", "leave 3 throw return");
    }

    private static void endOfARegion() {
        Check.sentence("FROM, MIDDLE and END are such beginnings (END may be the code's end).");
        due("END is the code's end", true, "method none", "region 1 2 3 catch", "return nop throw");
        due("END is one behind the code's end", false, "method none", "region 1 2 4 catch", "return nop throw");
        due("END is the last beginning", true, "method none", "region 1 2 3 catch", "return nop throw const 1");
        due("END is a second byte, the last of all", false, "method none", "region 1 2 4 catch", "return nop throw const 1");
        due("END is the code's end behind a second byte", true, "method none", "region 1 2 5 catch", "return nop throw const 1");
    }

    private static void beginningsOfARegion() {
        Check.sentence("FROM, MIDDLE and END are such beginnings (END may be the code's end).");
        // Beginnings 0, 1, 3, 5, 6, 8; the code's end is 9.
        for (int from = 1; from <= 9; from++) {
            for (int middle = from + 1; middle <= 9; middle++) {
                for (int end = middle + 1; end <= 9; end++) {
                    boolean is = begins(from) && begins(middle) && (begins(end) || end == 9);
                    due("beginnings", is, "method none", "region " + from + " " + middle + " " + end + " finally", "return const 1 const 1 nop const 1 nop");
                }
            }
        }
    }

    private static boolean begins(int p) {
        return p == 0 || p == 1 || p == 3 || p == 5 || p == 6 || p == 8;
    }

    private static int bits(int from, int end) {
        return (1 << end) - (1 << from);
    }

    /** As the sentence says it, by the bytes that they have. */
    private static boolean fits(int[] former, int[] latter) {
        int all = bits(former[0], former[2]);
        boolean apart = (all & bits(latter[0], latter[2])) == 0;
        boolean inPart = (all & ~bits(latter[0], latter[1])) == 0;
        boolean inHandler = (all & ~bits(latter[1], latter[2])) == 0;
        return apart || inPart || inHandler;
    }

    private static List<int[]> allRegions(int size) {
        List<int[]> all = new ArrayList<>();
        for (int from = 1; from <= size; from++) {
            for (int middle = from + 1; middle <= size; middle++) {
                for (int end = middle + 1; end <= size; end++) {
                    all.add(new int[] {from, middle, end});
                }
            }
        }
        return all;
    }

    private static void twoRegions() {
        Check.sentence("of two of them the former is, as a whole, apart from the latter, or within its part, or within its handler.");
        List<int[]> all = allRegions(8);
        for (int[] former : all) {
            for (int[] latter : all) {
                Check.due("regions " + Arrays.toString(former) + Arrays.toString(latter), isWellMade(8, former, latter), fits(former, latter));
            }
        }
    }

    private static void threeRegions() {
        Check.sentence("of two of them the former is, as a whole, apart from the latter, or within its part, or within its handler.");
        List<int[]> all = allRegions(6);
        for (int[] a : all) {
            for (int[] b : all) {
                for (int[] c : all) {
                    boolean is = fits(a, b) && fits(a, c) && fits(b, c);
                    Check.due("regions " + Arrays.toString(a) + Arrays.toString(b) + Arrays.toString(c), isWellMade(6, a, b, c), is);
                }
            }
        }
    }

    private static void whatCanBeReached() {
        Check.sentence("What can be reached: 0, with no stack; from an instruction that is reached the next one behind it (but for 13, 34, 35, 36, 37) "
            + "and the one to which it goes, with the stack that it leaves, for 36 with none;");
        reaches("go t", -1, 0);
        reaches("leave t", -1, 0);
        reaches("return", -1, -1);
        reaches("const 1 throw", -1, -1);
        reaches("const 1 if t", 0, 0);
        reaches("const 1 const 2 less t", 0, 0);
        reaches("nop", 0, 0);
        TypedEngine x = new Asm("method none", "region a b c finally", "a: nop leave c", "b: done", "d: nop", "c: return").engine();
        Check.due("behind a done", x.depth(0, 4), -1);
        Asm asm = new Asm("method none number", "const 1 const 2 arg 0 if t", "const 3 const 4 add drop leave u", "t: drop drop", "u: return");
        TypedEngine y = asm.engine();
        Check.due("an if's stack", y.depth(0, asm.at(0, "t")), 2);
        Check.due("a leave's stack", y.depth(0, asm.at(0, "u")), 0);
    }

    /** The depth of what is behind the code and of what it goes to, at t, two places on. */
    private static void reaches(String code, int behind, int there) {
        Asm asm = new Asm("method none", code, "b: nop", "t: nop", "return");
        TypedEngine x = asm.engine();
        Check.due(code + ": verified", x.verified(0), true);
        Check.due(code + ": what is behind it", x.depth(0, asm.at(0, "b")), behind);
        Check.due(code + ": where it goes", x.depth(0, asm.at(0, "t")), there);
    }

    private static void stacksOfAMiddle() {
        Check.sentence("and, if an instruction of a part can be reached, its MIDDLE, with a NUMBER for CATCH, with none for FINALLY.");
        for (int kind = 0; kind <= 1; kind++) {
            Asm asm = new Asm("method none", "region a b c " + kind, "a: const 1 const 2 leave c", "b: nop d: go d", "c: return");
            TypedEngine x = asm.engine();
            Check.due("kind " + kind + ": depth", x.depth(0, asm.at(0, "b")), 1 - kind);
            Check.due("kind " + kind + ": type", x.type(0, asm.at(0, "b"), 0), 1 - kind);
            Check.due("kind " + kind + ": no more types", x.type(0, asm.at(0, "b"), 1), 0);
            Asm unreached = new Asm("method none", "region a b c " + kind, "go c", "a: nop", "b: nop", "c: return");
            Check.due("kind " + kind + ": a part that can't be reached", unreached.engine().depth(0, unreached.at(0, "b")), -1);
            Check.due("kind " + kind + ": it is verified", unreached.engine().verified(0), true);
        }
    }

    private static final String[] ZONES = {"before", "from", "part", "middle", "handler", "behind"};

    /** A region with that kind; from each zone of it one jump can go to another. */
    private static boolean passes(boolean leaves, int kind, int source, int target) {
        String jump = leaves ? "arg 0 if n leave z" + target + " n: nop" : "arg 0 if z" + target;
        String[] zones = {"", "", "", "", "", ""};
        zones[source] = jump;
        String first = kind == 0 ? "drop" : "nop";
        return new Asm("method none number", "region z1 z3 z5 " + kind,
            "z0: nop nop", zones[0] + " nop", "z1: nop", zones[1] + " nop", "z2: nop", zones[2] + " nop leave z5",
            "z3: " + first, zones[3] + " nop", "z4: nop", zones[4] + " nop", kind == 0 ? "leave z5" : "done",
            "z5: nop", zones[5] + " nop return").engine().verified(0);
    }

    private static void table(boolean leaves, int kind, String... rows) {
        for (int source = 0; source < 6; source++) {
            for (int target = 0; target < 6; target++) {
                Check.due((leaves ? "leave" : "go") + " from " + ZONES[source] + " to " + ZONES[target] + ", kind " + kind,
                    passes(leaves, kind, source, target), rows[source].charAt(target) == '+');
            }
        }
    }

    // A row for each zone it comes from, a sign for each zone it goes to. The middle of a catch has
    // a number on its stack, so that none comes there with an empty one.

    private static void goesBetweenZones() {
        Check.sentence("But for 36, an instruction and the next one lie in the same parts and handlers, or the next one is the FROM "
            + "of regions in whose parts and handlers the former does not lie, otherwise in the same, and the stack is empty.");
        table(false, 0, "++---+", "-++---", "-++---", "----+-", "----+-", "++---+");
        table(false, 1, "++---+", "-++---", "-++---", "---++-", "---++-", "++---+");
    }

    private static void leavesBetweenZones() {
        Check.sentence("For 36 the next one lies in no part or handler in which the former is not, and the former in no handler of a FINALLY "
            + "in which the next one is not.");
        table(true, 0, "+----+", "+++--+", "+++--+", "+---++", "+---++", "+----+");
        table(true, 1, "+----+", "+++--+", "+++--+", "---++-", "---++-", "+----+");
    }

    private static void anEmptyStackAtFrom() {
        Check.sentence("otherwise in the same, and the stack is empty.");
        String tail = "b: drop leave c c: return";
        due("falls to FROM with none", true, "method none", "region a b c catch", "const 1 drop", "a: nop leave c", tail);
        due("falls to FROM with one", false, "method none", "region a b c catch", "const 1", "a: nop leave c", tail);
        due("ifs to FROM with none", true, "method none", "region a b c catch", "const 1 if a leave c", "a: leave c", tail);
        due("ifs to FROM with one", false, "method none", "region a b c catch", "const 1 const 1 if a leave c", "a: leave c", tail);
        due("goes to FROM with one", false, "method none", "region a b c catch", "const 1 go a", "nop", "a: leave c", tail);
        due("goes on in the part with eight", true, "method none", "region a b c catch", "nop", "a: nop", times(8, "const 1"), "leave c", tail);
    }

    private static void fromOfSeveral() {
        Check.sentence("or the next one is the FROM of regions in whose parts and handlers the former does not lie, otherwise in the same");
        String rest = "b: drop leave c c: nop leave e d: drop leave e e: nop leave g f: drop leave g g: return";
        due("into three at once", true, "method none", "region a b c catch", "region a d e catch", "region a f g catch", "nop a: leave c", rest);
        due("into two, out of the third", true, "method none", "region a b c catch", "region a d e catch", "region o f g catch", "o: nop a: leave c", rest);
        due("into one, out of two", true, "method none", "region a b c catch", "region o d e catch", "region o f g catch", "o: nop a: leave c", rest);
        due("into two, past the third's FROM", false, "method none", "region a b c catch", "region a d e catch", "region o f g catch", "go a o: nop a: leave c", rest);
        due("into one, past two others' FROM", false, "method none", "region a b c catch", "region o d e catch", "region o f g catch", "go a o: nop a: leave c", rest);
        due("to the FROM of the outer ones alone", true, "method none", "region a b c catch", "region o d e catch", "region o f g catch", "go o nop o: nop a: leave c", rest);
        due("from the part of one to the FROM of it and another within", true, "method none", "region a b c catch", "region a d e catch",
            "nop a: leave c", "b: drop leave c", "c: const 1 if a leave e", "d: drop leave e", "e: return");
        due("from a handler to the FROM of its own and others", false, "method none", "region a b c catch", "region a d e catch",
            "nop a: leave c", "b: drop leave c", "c: leave e", "d: if a leave e", "e: return");
        due("from a handler within to the FROM of the outer one", false, "method none", "region a b c catch", "region a d e catch",
            "nop a: leave c", "b: if a leave c", "c: leave e", "d: drop leave e", "e: return");
        due("from a handler to the FROM of one within it", true, "method none", "region a b c catch", "region o d e catch",
            "nop o: leave e", "d: drop const 1 if a leave e", "a: leave c", "b: drop leave c", "c: leave e", "e: return");
        due("from a part to the FROM of one within its handler", false, "method none", "region a b c catch", "region o d e catch",
            "nop o: const 1 if a leave e", "d: drop nop", "a: leave c", "b: drop leave c", "c: leave e", "e: return");
    }

    private static void returnsOutsideOfRegions() {
        Check.sentence("34 lies in no part or handler.");
        for (int kind = 0; kind <= 1; kind++) {
            String end = kind == 0 ? "b: drop leave c" : "b: done";
            due("before FROM", true, "method none number", "region a b c " + kind, "arg 0 if a return", "a: leave c", end, "c: return");
            due("at FROM", false, "method none number", "region a b c " + kind, "a: return", end, "c: return");
            due("the last of the part", false, "method none number", "region a b c " + kind, "a: nop return", end, "c: return");
            due("at MIDDLE", false, "method none number", "region a b c " + kind, "a: leave c", "b: return", "c: return");
            due("the last of the handler", false, "method none number", "region a b c " + kind, "a: leave c", "b: nop return", "c: return");
            due("at END", true, "method none number", "region a b c " + kind, "a: leave c", end, "c: return");
        }
    }

    private static void donesInHandlers() {
        Check.sentence("37 lies in a handler of a FINALLY, in no other part or handler further within, and its stack is empty.");
        due("before FROM", false, "method none number", "region a b c finally", "arg 0 if a done", "a: leave c", "b: done", "c: return");
        due("at FROM", false, "method none", "region a b c finally", "a: done", "b: done", "c: return");
        due("the last of the part", false, "method none", "region a b c finally", "a: nop done", "b: done", "c: return");
        due("at MIDDLE", true, "method none", "region a b c finally", "a: leave c", "b: done", "c: return");
        due("the last of the handler", true, "method none", "region a b c finally", "a: leave c", "b: nop done", "c: return");
        due("at END", false, "method none", "region a b c finally", "a: leave c", "b: done", "c: done");
        due("in a CATCH's handler", false, "method none", "region a b c catch", "a: leave c", "b: drop done", "c: return");
        due("with one on the stack", false, "method none", "region a b c finally", "a: leave c", "b: const 1 done", "c: return");
        due("with one that was taken", true, "method none", "region a b c finally", "a: leave c", "b: const 1 drop done", "c: return");
        String[] kinds = {"catch", "finally"};
        for (String inner : kinds) {
            String innerEnd = inner.equals("catch") ? "g: drop leave h" : "g: done";
            String innerDone = inner.equals("catch") ? "g: drop done" : "g: nop done";
            for (String outer : kinds) {
                boolean isFinally = outer.equals("finally");
                String first = isFinally ? "b: nop" : "b: drop";
                String outerEnd = isFinally ? "done" : "leave c";
                String[] head = {"method none", "region f g h " + inner, "region a b c " + outer, "a: leave c", first};
                due("in the " + outer + "'s handler behind a " + inner, isFinally, join(head, "f: leave h", innerEnd, "h: nop done", "c: return"));
                due("in the part of a " + inner + " within a " + outer + "'s handler", false, join(head, "f: done", innerEnd, "h: " + outerEnd, "c: return"));
                due("in the handler of a " + inner + " within a " + outer + "'s handler", inner.equals("finally"),
                    join(head, "f: leave h", innerDone, "h: " + outerEnd, "c: return"));
                due("in the handler of a " + inner + " within a " + outer + "'s part", inner.equals("finally"),
                    "method none", "region f g h " + inner, "region f b c " + outer, "nop f: leave h", innerDone, "h: leave c", first, outerEnd, "c: return");
            }
        }
    }

    private static void anythingAtALeave() {
        Check.sentence("At 36 anything may be on the stack.");
        String[] pushes = {"const 1", "arg 0", "arg 1", "null array", "null box", "new 0"};
        for (String push : pushes) {
            for (int count = 0; count <= 8; count++) {
                due(count + " of " + push, true, "class", "method none pair place", times(count, push), "leave t", "nop t: return");
                due(count + " of " + push + " in a part", true, "class", "method none pair place", "region a b c catch", "nop a: nop", times(count, push), "leave c",
                    "b: leave c", "c: return");
            }
        }
    }
}
