import java.util.ArrayList;
import java.util.Arrays;
import java.util.List;

/** Promises 5 to 7: verified, depth and type. */
public final class VerifyTest {
    private static final String[] TYPES = {"number", "pair", "place", "array", "box", "object0", "object1"};

    public static void main(String[] args) {
        noSuchMethod();
        everyInstructionsTypes();
        whatIsNamed();
        howCodeLies();
        whereItGoes();
        oneStackOnly();
        eightAtMost();
        whatCannotBeReached();
        regionsWellMade();
        passingBetweenRegions();
        leaving();
        returnAndDone();
        depthAndType();
        Check.finish("VerifyTest");
    }

    /** Whether method 0 of these is verified. */
    private static void due(String what, boolean want, String... lines) {
        Check.due(what + " " + Arrays.toString(lines), new Asm(lines).engine().verified(0), want);
    }

    /** Lines of one method, whose head comes first. */
    private static String[] with(String[] before, String... behind) {
        List<String> all = new ArrayList<>(Arrays.asList(before));
        all.addAll(Arrays.asList(behind));
        return all.toArray(new String[0]);
    }

    private static void noSuchMethod() {
        TypedEngine x = new Asm("method none", "return", "method none", "drop", "return").engine();
        Check.due("verified(0)", x.verified(0), true);
        Check.due("verified(1)", x.verified(1), false);
        int[] none = {-1, 2, 3, 5, 6, 7, 255, 256, Integer.MIN_VALUE, Integer.MAX_VALUE};
        for (int m : none) {
            Check.due("verified(" + m + ")", x.verified(m), false);
            Check.due("depth(" + m + ", 0)", x.depth(m, 0), -2);
            Check.due("type(" + m + ", 0, 0)", x.type(m, 0, 0), 0);
        }
        Check.due("depth(1, 0)", x.depth(1, 0), -2);
        Check.due("depth(1, 5)", x.depth(1, 5), -2);
        Check.due("type(1, 0, 0)", x.type(1, 0, 0), 0);
    }

    private static final String[] HEAD = {"class number pair array box", "class object0 object1",
        "method number number pair place / number pair array object0"};

    private static String push(String type) {
        switch (type) {
            case "number": return "const 1";
            case "pair": return "arg 1";
            case "place": return "arg 2";
            case "array": return "null array";
            case "box": return "null box";
            default: return "null " + type;
        }
    }

    /** What the instruction takes and puts: it is verified with that, and not with less or with others. */
    private static void effect(String op, String takes, String puts) {
        String[] taken = takes.isEmpty() ? new String[0] : takes.split(" ");
        String[] put = puts.isEmpty() ? new String[0] : puts.split(" ");
        for (int below = 0; below <= 1; below++) {
            List<String> lines = new ArrayList<>(Arrays.asList(HEAD));
            if (below == 1) {
                lines.add("arg 1");
            }
            for (String type : taken) {
                lines.add(push(type));
            }
            lines.add(op);
            lines.add("t: const 9");
            lines.add("return");
            Asm asm = new Asm(lines.toArray(new String[0]));
            TypedEngine x = asm.engine();
            Check.due(op + " is verified", x.verified(0), true);
            Check.due(op + ": depth behind", x.depth(0, asm.at(0, "t")), below + put.length);
            for (int i = 0; i < put.length; i++) {
                Check.due(op + ": type behind " + i, x.type(0, asm.at(0, "t"), below + i), Asm.type(put[i]));
            }
        }
        for (int wrong = 0; wrong < taken.length; wrong++) {
            effectRefused(op, taken, wrong);
        }
    }

    private static void effectRefused(String op, String[] taken, int wrong) {
        for (String other : TYPES) {
            List<String> lines = new ArrayList<>(Arrays.asList(HEAD));
            for (int i = 0; i < taken.length; i++) {
                lines.add(push(i == wrong ? other : taken[i]));
            }
            lines.add(op);
            lines.add("t: const 9");
            lines.add("return");
            due("a wrong type", other.equals(taken[wrong]), lines.toArray(new String[0]));
        }
        List<String> lines = new ArrayList<>(Arrays.asList(HEAD));
        for (int i = wrong + 1; i < taken.length; i++) {
            lines.add(push(taken[i]));
        }
        lines.add(op);
        lines.add("t: const 9");
        lines.add("return");
        due("too little on the stack", false, lines.toArray(new String[0]));
    }

    private static void everyInstructionsTypes() {
        effect("nop", "", "");
        effect("const -5", "", "number");
        effect("get 0", "", "number");
        effect("get 1", "", "pair");
        effect("get 2", "", "array");
        effect("get 3", "", "object0");
        effect("set 0", "number", "");
        effect("set 1", "pair", "");
        effect("set 2", "array", "");
        effect("set 3", "object0", "");
        effect("spot 0", "", "place");
        effect("arg 0", "", "number");
        effect("arg 1", "", "pair");
        effect("arg 2", "", "place");
        effect("put 0", "number", "");
        effect("put 1", "pair", "");
        effect("put 2", "place", "");
        for (String op : new String[] {"add", "sub", "mul", "div"}) {
            effect(op, "number number", "number");
        }
        effect("go t", "", "");
        effect("if t", "number", "");
        effect("less t", "number number", "");
        effect("null array", "", "array");
        effect("null box", "", "box");
        effect("null object0", "", "object0");
        effect("null object1", "", "object1");
        effect("new 0", "", "object0");
        effect("new 1", "", "object1");
        effect("field 0.0", "object0", "number");
        effect("field 0.1", "object0", "pair");
        effect("field 0.2", "object0", "array");
        effect("field 0.3", "object0", "box");
        effect("field 1.0", "object1", "object0");
        effect("field 1.1", "object1", "object1");
        effect("store 0.0", "object0 number", "");
        effect("store 0.1", "object0 pair", "");
        effect("store 0.2", "object0 array", "");
        effect("store 0.3", "object0 box", "");
        effect("store 1.0", "object1 object0", "");
        effect("store 1.1", "object1 object1", "");
        effect("at 0.0", "object0", "place");
        effect("array", "number", "array");
        effect("item", "array number", "number");
        effect("keep", "array number number", "");
        effect("point", "array number", "place");
        effect("size", "array", "number");
        effect("load", "place", "number");
        effect("save", "place number", "");
        effect("pair", "number number", "pair");
        effect("first", "pair", "number");
        effect("second", "pair", "number");
        effect("box", "pair", "box");
        effect("open", "box", "pair");
        effect("call 0", "number pair place", "number");
        for (String type : TYPES) {
            anyType(type);
        }
        due("dup of nothing", false, "method none", "dup", "return");
        due("drop of nothing", false, "method none", "drop", "return");
        due("throw of nothing", false, "method none", "throw");
        for (String type : TYPES) {
            due("throw", type.equals("number"), with(HEAD, push(type), "throw"));
            due("return", type.equals("number"), with(HEAD, push(type), "return"));
        }
    }

    private static void anyType(String type) {
        Asm asm = new Asm(with(HEAD, push(type), "dup", "a: drop", "b: drop", "c: const 1", "return"));
        TypedEngine x = asm.engine();
        Check.due("dup and drop are verified", x.verified(0), true);
        Check.due("dup: depth", x.depth(0, asm.at(0, "a")), 2);
        Check.due("dup: lower type", x.type(0, asm.at(0, "a"), 0), Asm.type(type));
        Check.due("dup: upper type", x.type(0, asm.at(0, "a"), 1), Asm.type(type));
        Check.due("drop: depth", x.depth(0, asm.at(0, "b")), 1);
        Check.due("drop: type", x.type(0, asm.at(0, "b"), 0), Asm.type(type));
        Check.due("drop: depth", x.depth(0, asm.at(0, "c")), 0);
    }

    private static void whatIsNamed() {
        String[] head = {"class number pair", "class", "class number number number number", "method none number pair / number pair"};
        String[] ones = {"get 0", "get 1", "arg 0", "arg 1", "spot 0", "new 0", "new 1", "new 2", "null object2", "null 4", "null 5", "null 8", "null 10"};
        for (String op : ones) {
            due("named and there", true, with(head, op, "return"));
        }
        String[] none = {"get 2", "get 3", "get 4", "get 255", "arg 2", "arg 3", "arg 255", "spot 1", "spot 2", "spot 255",
            "new 3", "new 4", "new 255", "null 0", "null 1", "null 2", "null 3", "null 6", "null 7", "null 11", "null 12", "null 255"};
        for (String op : none) {
            due("named and not there", false, with(head, op, "return"));
        }
        full();
        everyK();
        due("field there", true, with(head, "new 2", "field 2.3", "return"));
        due("place of a field there", true, with(head, "new 2", "at 2.3", "return"));
        due("field that is none", false, with(head, "new 0", "field 0.2", "return"));
        due("field that is none", false, with(head, "new 0", "field 0.3", "return"));
        due("field of none", false, with(head, "new 1", "field 1.0", "return"));
        due("field of a class that is none", false, with(head, "new 0", "field 3.0", "return"));
        due("field of a class that is none", false, with(head, "new 0", "field 63.3", "return"));
        due("another class's field", false, with(head, "new 0", "field 2.0", "return"));
        due("store of none", false, with(head, "new 1", "const 1", "store 1.0", "return"));
        due("store to a class that is none", false, with(head, "new 0", "const 1", "store 4.0", "return"));
        due("place of a pair field", false, with(head, "new 0", "at 0.1", "return"));
        due("place of none", false, with(head, "new 0", "at 0.2", "return"));
        due("set of none", false, with(head, "const 1", "set 2", "return"));
        due("put of none", false, with(head, "const 1", "put 2", "return"));
        due("a call there", true, with(head, "call 1", "return", "method none", "return"));
        due("a call of none", false, with(head, "call 1", "return"));
        due("a call of none", false, with(head, "call 2", "return", "method none", "return"));
        due("a call of none", false, with(head, "call 255", "return"));
        due("a call of one that is not verified", true, with(head, "call 1", "return", "method none", "drop", "return"));
        due("arguments, first lowest", true, with(head, "const 1", "arg 1", "call 0", "return"));
        due("arguments the wrong way", false, with(head, "arg 1", "const 1", "call 0", "return"));
        due("a missing argument", false, with(head, "arg 1", "call 0", "return"));
        due("no result to take", false, with(head, "const 1", "arg 1", "call 0", "drop", "return"));
        due("a result to take", true, with(head, "call 1", "first", "drop", "return", "method pair", "get 0", "return"));
    }

    /** Every byte as what an instruction names, with any type below it on the stack. */
    private static void everyK() {
        String[] head = {"class number pair", "class", "class array object0 number", "method none number pair / number pair array"};
        int[][] fields = {{1, 2}, {}, {4, 8, 1}};
        String[] below = {"const 1", "arg 1", "new 0", "new 1", "new 2", "null array", "nop"};
        String[] onTop = {"const 1", "arg 1", "new 0", "null array"};
        int[] types = {1, 2, 8, 4};
        for (int k = 0; k <= 255; k++) {
            int c = k / 4;
            int field = c < 3 && k % 4 < fields[c].length ? fields[c][k % 4] : 0;
            for (String low : below) {
                boolean isObject = field != 0 && low.equals("new " + c);
                due("field " + k, isObject, with(head, low, "byte 18 byte " + k, "return"));
                due("at " + k, isObject && field == 1, with(head, low, "byte 20 byte " + k, "return"));
                for (int i = 0; i < onTop.length; i++) {
                    due("store " + k, isObject && field == types[i], with(head, low, onTop[i], "byte 19 byte " + k, "return"));
                }
            }
            due("get " + k, k < 3, with(head, "byte 2 byte " + k, "return"));
            due("set " + k, k < 1, with(head, "const 1", "byte 3 byte " + k, "return"));
            due("spot " + k, k < 1, with(head, "byte 4 byte " + k, "return"));
            due("arg " + k, k < 2, with(head, "byte 5 byte " + k, "return"));
            due("put " + k, k < 1, with(head, "const 1", "byte 6 byte " + k, "return"));
            due("null " + k, k == 4 || k == 5 || k >= 8 && k <= 10, with(head, "byte 16 byte " + k, "return"));
            due("new " + k, k < 3, with(head, "byte 17 byte " + k, "return"));
            due("call " + k, k == 1, with(head, "byte 33 byte " + k, "return", "method none", "return"));
        }
    }

    /** Where there are as many as there may be, one more is none. */
    private static void full() {
        String[] head = {"class", "class", "class", "class number number number number",
            "method none number number number / number number number number"};
        String[] tail = {"method none", "return", "method none", "return", "method none", "return", "method none", "return", "method none", "return"};
        String[] last = {"get 3", "arg 2", "spot 3", "new 3", "null object3", "new 3 field 3.3", "const 1 set 3", "const 1 put 2", "call 5"};
        String[] none = {"get 4", "arg 3", "spot 4", "new 4", "null 12", "new 3 field 4.0", "const 1 set 4", "const 1 put 3", "call 6"};
        for (int i = 0; i < last.length; i++) {
            due("the last of its kind", true, with(with(head, last[i], "return"), tail));
            due("one behind the last", false, with(with(head, none[i], "return"), tail));
        }
        due("three regions in a row", true, "method none", "region 0 2 3 catch", "region 4 6 7 catch", "region 8 10 11 finally",
            "leave 3", "throw", "nop", "leave 7", "throw", "nop", "leave 11", "done", "nop", "return");
    }

    private static void howCodeLies() {
        for (int op = 38; op <= 255; op++) {
            due("no instruction", false, "method none", "return", "byte " + op);
            due("no instruction", false, "method none", "byte " + op, "return");
        }
        for (int op = 0; op <= 37; op++) {
            boolean two = op >= 1 && op <= 6 || op >= 13 && op <= 20 || op == 33 || op == 36;
            due("the code's last byte is op " + op, !two, "method none", "return", "byte " + op);
            due("two last bytes, the first op " + op, true, "method none", "return", "byte " + op, "byte 0");
            due("a byte behind op " + op, two, "method none", "return", "byte " + op, "byte 99");
        }
        due("cut where it is reached", false, "method none", "nop", "byte 1");
    }

    private static void whereItGoes() {
        due("falls off the end", false, "method none", "nop");
        due("falls off the end", false, "method none", "const 1", "drop");
        due("if falls off the end", false, "method none", "a: const 1", "if a");
        due("less falls off the end", false, "method none", "a: const 1", "const 1", "less a");
        due("call falls off the end", false, "method none", "call 0");
        due("go back", true, "method none", "a: go a");
        due("go to the end", false, "method none", "go e", "return", "e:");
        due("go behind the end", false, "method none", "go 5", "return");
        due("go before the code", false, "method none", "go -1", "return");
        due("go far before the code", false, "method none", "go -126", "return");
        due("go into an instruction", false, "method none", "go 3", "const 0", "drop", "return");
        due("if into an instruction", false, "method none", "const 0", "if 1", "return");
        due("less to the end", false, "method none", "const 0", "const 0", "less 7", "return");
        due("leave to the end", false, "method none", "leave e", "return", "e:");
        due("leave into an instruction", false, "method none", "leave 1");
        due("leave before the code", false, "method none", "leave -2", "return");
        due("leave itself", true, "method none", "leave 0");
        due("throw at the end", true, "method none", "const 1", "throw");
        StringBuilder far = new StringBuilder();
        for (int i = 0; i < 90; i++) {
            far.append("nop ");
        }
        due("go far", true, "method none", "a: go c", far.toString(), "return", "c: go a");
    }

    private static void oneStackOnly() {
        due("the same from two sides", true, "method none number", "arg 0", "if a", "const 1", "go b", "a: const 2", "b: drop", "return");
        due("another type", false, "method none number pair", "arg 0", "if a", "const 1", "go b", "a: arg 1", "b: drop", "return");
        due("another depth", false, "method none number", "arg 0", "if a", "const 1", "a: return");
        due("other nulls", false, "method none number", "arg 0", "if a", "null array", "go b", "a: null box", "b: drop", "return");
        due("other objects", false, "class", "class", "method none number", "arg 0", "if a", "new 0", "go b", "a: new 1", "b: drop", "return");
        due("a row that grows", false, "method none", "a: const 1", "go a");
        due("a row that grows by a branch", false, "method none", "a: const 1", "const 1", "if a", "return");
        due("a loop with the same row", true, "method none number", "const 5", "a: const -1", "add", "dup", "if a", "drop", "return");
        due("the start with a stack", false, "method none", "const 1", "go 0");
        due("lower types differ", false, "method none number pair", "arg 0", "if a", "const 1", "const 1", "go b", "a: arg 1", "const 1", "b: drop", "drop", "return");
    }

    private static void eightAtMost() {
        for (int deep = 1; deep <= 20; deep++) {
            StringBuilder pushes = new StringBuilder();
            for (int i = 0; i < deep; i++) {
                pushes.append("const 1 ");
            }
            due(deep + " numbers", deep <= 8, "method none", pushes.toString(), "return");
            due(deep + " objects", deep <= 8, "class", "class", "class", "class", "method none",
                pushes.toString().replace("const 1", "new 3"), "return");
        }
        String eight = "const 1 const 1 const 1 const 1 const 1 const 1 const 1 const 1";
        due("dup at eight", false, "method none", eight, "dup", "return");
        due("add at eight", true, "method none", eight, "add", "const 1", "return");
        due("a call's result at eight", false, "method none", eight, "call 1", "return", "method number", "const 1", "return");
        due("a call's argument and result at eight", true, "method none", eight, "call 1", "return", "method number number", "const 1", "return");
        due("store at eight", true, "class number", "method none", "null object0 null object0 null object0 null object0 null object0 null object0 null object0", "const 1", "store 0.0", "return");
    }

    private static void whatCannotBeReached() {
        due("nothing is asked of it", true, "method none", "return", "drop", "get 9", "call 9", "go -100", "done", "field 9.3", "null 7");
        due("a pass out of a part", true, "method none", "region a b c catch", "a: leave c", "nop", "b: drop", "leave c", "c: return");
        due("a return in a part", true, "method none", "region a b c catch", "a: leave c", "return", "b: drop", "leave c", "c: return");
        due("a done outside", true, "method none", "return", "done");
        due("a leave into a part", true, "method none", "region a b c catch", "go c", "a: leave c", "b: drop", "leave c", "c: return", "leave a");
        due("a handler without its part", true, "method none", "region a b c catch", "go c", "a: nop", "b: get 7", "nop", "c: return");
        Asm asm = new Asm("method none", "region a b c catch", "go c", "a: nop", "b: get 7", "nop", "c: return");
        TypedEngine x = asm.engine();
        Check.due("depth of a part that is not reached", x.depth(0, asm.at(0, "a")), -1);
        Check.due("depth of a handler that is not reached", x.depth(0, asm.at(0, "b")), -1);
        Check.due("depth behind", x.depth(0, asm.at(0, "c")), 0);
        due("an end that is not reached", true, "method none", "return", "nop");
    }

    /** Regions over ten beginnings 0 .. 8 and 10, none of them reached. */
    private static void shape(boolean want, String... regions) {
        String[] lines = new String[regions.length + 2];
        lines[0] = "method none";
        System.arraycopy(regions, 0, lines, 1, regions.length);
        for (int i = 1; i <= regions.length; i++) {
            lines[i] = "region " + regions[i - 1];
        }
        lines[regions.length + 1] = "return return return return return return return return const 1 return";
        // The first instruction returns, so that it must lie in no region.
        due("regions", want, lines);
    }

    private static void regionsWellMade() {
        shape(true, "1 2 3 catch");
        shape(true, "1 2 3 finally");
        shape(true, "1 2 11 catch");
        shape(true, "1 2 10 catch");
        shape(false, "1 2 12 catch");
        shape(false, "1 2 9 catch");
        shape(false, "1 9 10 catch");
        shape(false, "9 10 11 catch");
        shape(true, "8 10 11 catch");
        shape(false, "1 1 2 catch");
        shape(false, "1 2 2 catch");
        shape(false, "2 1 3 catch");
        shape(false, "1 3 2 finally");
        shape(false, "3 2 1 finally");
        shape(false, "1 2 255 finally");
        shape(false, "200 201 202 finally");
        shape(false, "1 11 12 finally");
        shape(false, "11 12 13 finally");
        shape(true, "1 2 3 catch", "3 4 5 catch");
        shape(true, "3 4 5 catch", "1 2 3 catch");
        shape(true, "1 2 3 catch", "1 3 4 catch");
        shape(true, "2 3 4 catch", "1 5 6 finally");
        shape(true, "2 3 4 catch", "2 4 6 finally");
        shape(true, "5 6 7 catch", "2 4 8 finally");
        shape(true, "4 6 8 catch", "2 4 8 finally");
        shape(false, "2 4 8 finally", "4 6 8 catch");
        shape(false, "1 3 4 catch", "1 2 3 catch");
        shape(false, "1 3 5 catch", "1 4 6 catch");
        shape(false, "1 2 4 catch", "1 3 5 catch");
        shape(false, "2 3 5 catch", "1 4 6 catch");
        shape(false, "1 2 4 catch", "3 5 6 catch");
        shape(false, "3 5 6 catch", "1 2 4 catch");
        shape(false, "4 5 7 catch", "1 3 6 catch");
        shape(false, "1 2 3 catch", "1 2 3 catch");
        shape(false, "3 4 5 catch", "2 4 6 catch");
        shape(true, "1 2 3 catch", "4 5 6 catch", "7 8 10 catch");
        shape(true, "1 2 3 catch", "1 3 4 catch", "1 4 5 finally");
        shape(true, "1 2 3 catch", "5 6 7 catch", "1 4 8 finally");
        shape(false, "1 2 3 catch", "1 4 8 finally", "5 6 7 catch");
        shape(false, "1 2 3 catch", "4 5 6 catch", "1 5 7 catch");
        shape(false, "1 2 3 catch", "4 5 6 catch", "2 7 8 catch");
        shape(true, "4 5 6 catch", "3 7 8 catch", "1 3 8 catch");
        shape(false, "7 7 7 catch", "3 4 5 catch", "1 2 3 catch");
        shape(false, "7 8 10 catch", "3 4 5 catch", "1 2 2 catch");
        due("regions of unreached code count", false, "method none", "region 2 1 3 catch", "return nop nop nop");
        due("a region from 0", true, "method none", "region 0 b e catch", "leave e", "b: throw", "e: return");
        due("a region that ends with the code", true, "method none", "region b c e catch", "go b", "b: nop", "go b", "c: throw", "e:");
    }

    private static void passingBetweenRegions() {
        String tail = "b: drop leave c c: return";
        due("falls into a part", true, "method none", "region a b c catch", "nop", "a: leave c", tail);
        due("goes into a part", true, "method none", "region a b c catch", "go a", "nop", "a: leave c", tail);
        due("falls into a part with a stack", false, "method none", "region a b c catch", "const 1", "a: leave c", tail);
        due("ifs into a part with a stack", false, "method none", "region a b c catch", "const 1", "const 1", "if a", "leave c", "a: leave c", tail);
        due("ifs into a part", true, "method none", "region a b c catch", "const 1", "if a", "leave c", "a: leave c", tail);
        due("lesses into a part", true, "method none", "region a b c catch", "const 1", "const 2", "less a", "leave c", "a: leave c", tail);
        due("goes into the middle of a part", false, "method none", "region a b c catch", "go d", "a: nop", "d: leave c", tail);
        due("goes to the from within the part", true, "method none", "region a b c catch", "a: const 1", "if a", "leave c", tail);
        due("goes to the from within the part with a stack", true, "method none", "region a b c catch", "const 1", "drop", "a: nop", "d: const 1", "e: const 1", "if e2", "e2: drop", "leave c", tail);
        due("falls out of a part", false, "method none", "region a b c catch", "a: const 1", tail);
        due("falls out of a finally's part", false, "method none", "region a b c finally", "a: nop", "b: done", "c: return");
        due("goes out of a part", false, "method none", "region a b c catch", "a: go c", tail);
        due("ifs out of a part", false, "method none", "region a b c catch", "a: const 1", "if c", "leave c", tail);
        due("falls out of a handler", false, "method none", "region a b c catch", "a: leave c", "b: drop", "c: return");
        due("goes out of a handler", false, "method none", "region a b c catch", "a: leave c", "b: drop", "go c", "c: return");
        due("falls out of a finally's handler", false, "method none", "region a b c finally", "a: leave c", "b: nop", "c: return");
        due("goes from a handler to its from", false, "method none", "region a b c catch", "a: leave c", "b: drop", "go a", "c: return");
        due("goes into a handler", false, "method none", "region a b c catch", "go d", "a: leave c", "b: drop", "d: leave c", "c: return");
        due("goes to the middle", false, "method none", "region a b c catch", "const 1", "go b", "a: leave c", tail);
        due("goes to the middle from the part", false, "method none", "region a b c catch", "a: const 1", "go b", tail);
        due("goes to the middle in the handler, with a number", true, "method none", "region a b c catch", "a: leave c", "b: dup", "if d", "leave c", "d: nop", "go b", "c: return");
        due("goes to the middle in the handler, with none", false, "method none", "region a b c catch", "a: leave c", "b: if d", "leave c", "d: go b", "c: return");
        due("goes to a finally's middle in the handler", true, "method none", "region a b c finally", "a: leave c", "b: const 1", "if b", "done", "c: return");
        due("from one part into the next", false, "method none", "region a b c catch", "region c d e catch", "a: go c", "b: drop", "leave e", "c: leave e", "d: drop", "leave e", "e: return");
        due("falls into two parts at once", true, "method none", "region a b c catch", "region a d e catch", "nop", "a: leave c", "b: drop", "leave c", "c: leave e", "d: drop", "leave e", "e: return");
        due("goes to two parts' from out of the outer one", true, "method none", "region a b c catch", "region a d e catch", "nop", "a: leave c", "b: drop", "leave c", "c: const 1", "if a", "leave e", "d: drop", "leave e", "e: return");
        due("the same with a stack", false, "method none", "region a b c catch", "region a d e catch", "nop", "a: leave c", "b: drop", "leave c", "c: const 1", "const 1", "if a", "leave e", "d: drop", "leave e", "e: return");
        due("goes to the inner from, past the outer one's", false, "method none", "region a b c catch", "region o d e catch", "go a", "o: nop", "a: leave c", "b: drop", "leave c", "c: leave e", "d: drop", "leave e", "e: return");
        due("falls into a part in a handler", true, "method none", "region a b c catch", "region o d e catch", "o: leave e", "d: drop", "a: leave c", "b: drop", "leave c", "c: leave e", "e: return");
        due("a middle that is a from", true, "method none", "region d b c catch", "region o d e finally", "o: leave e", "d: leave c", "b: drop", "leave c", "c: done", "e: return");
        due("a catch's middle that is a from", true, "method none", "region d b c catch", "region o d e catch", "o: leave e", "d: leave c", "b: drop", "leave c", "c: leave e", "e: return");
        due("goes in a handler to the from in it, from behind", true, "method none", "region d b c catch", "region o d e finally", "o: leave e", "d: leave c", "b: drop", "leave c", "c: const 1", "if d", "done", "e: return");
        due("falls into a part from a handler's part", false, "method none", "region a b c catch", "region o d e catch", "o: const 1", "if a", "leave e", "d: drop", "a: leave c", "b: drop", "leave c", "c: leave e", "e: return");
        due("a from that is also an end", true, "method none", "region a b c catch", "region c d e catch", "a: leave e", "b: drop", "leave e", "c: leave e", "d: drop", "leave e", "e: return");
        due("a stack within a part", true, "method none", "region a b c catch", "a: const 1", "const 2", "add", "drop", "leave c", tail);
        due("a catch has one number", false, "method none", "region a b c catch", "a: leave c", "b: add", "leave c", "c: return");
        due("a finally has none", false, "method none", "region a b c finally", "a: leave c", "b: drop", "done", "c: return");
    }

    private static void leaving() {
        due("a leave with a stack", true, "method none", "region a b c catch", "a: const 1", "const 2", "leave c", "b: leave c", "c: return");
        due("a leave comes with none", false, "method none", "const 1", "leave c", "c: drop", "return");
        due("a leave where others come with a stack", false, "method none", "const 1", "const 1", "if d", "leave d", "d: return");
        due("a leave outside of regions", true, "method none", "const 1", "leave c", "nop", "c: return");
        TypedEngine x = new Asm("method none", "nop nop nop nop return", "method none", "go 3", "const 34", "return").engine();
        Check.due("a beginning of another method only", x.verified(1), false);
        due("a leave back", true, "method none", "c: nop", "leave c");
        due("a leave into a part", false, "method none", "region a b c catch", "leave a", "a: leave c", "b: drop", "leave c", "c: return");
        due("a leave within a part", true, "method none", "region a b c catch", "a: const 1", "leave d", "d: leave c", "b: drop", "leave c", "c: return");
        due("a leave within a part to its from", true, "method none", "region a b c catch", "a: const 1", "if d", "leave a", "d: leave c", "b: drop", "leave c", "c: return");
        due("a leave from the part to the middle", false, "method none", "region a b c finally", "a: leave b", "b: done", "c: return");
        due("a leave from the handler to the from", false, "method none", "region a b c catch", "a: leave c", "b: leave a", "c: return");
        due("a leave out of a catch's handler", true, "method none", "region a b c catch", "a: leave c", "b: leave c", "c: return");
        due("a leave out of a finally's handler", false, "method none", "region a b c finally", "a: leave c", "b: leave c", "c: return");
        due("a leave within a finally's handler", true, "method none", "region a b c finally", "a: leave c", "b: leave d", "d: done", "c: return");
        due("a leave out of two parts", true, "method none", "region a b c finally", "region a d e finally", "a: leave e", "b: done", "c: leave e", "d: done", "e: return");
        due("a leave out of a part in a finally's handler, all the way", false, "method none", "region a b c catch", "region o d e finally", "o: leave e", "d: nop", "a: leave e", "b: leave c", "c: done", "e: return");
        due("a leave out of a part in a finally's handler", true, "method none", "region a b c catch", "region o d e finally", "o: leave e", "d: nop", "a: leave c", "b: leave c", "c: done", "e: return");
        due("a leave out of a catch's handler in a finally's handler", false, "method none", "region a b c catch", "region o d e finally", "o: leave e", "d: nop", "a: leave c", "b: leave e", "c: done", "e: return");
        due("a leave out of a part in a catch's handler", true, "method none", "region a b c catch", "region o d e catch", "o: leave e", "d: drop", "a: leave e", "b: leave e", "c: leave e", "e: return");
        due("a leave from one region into another", false, "method none", "region a b c catch", "region c d e catch", "a: leave c", "b: leave e", "c: leave e", "d: leave e", "e: return");
        due("a leave from a part into a part further within", false, "method none", "region a b c catch", "region o d e catch", "o: leave a", "a: leave c", "b: leave c", "c: leave e", "d: leave e", "e: return");
    }

    private static void returnAndDone() {
        due("a return in a part", false, "method none", "region a b c catch", "a: return", "b: leave c", "c: return");
        due("a return in a handler", false, "method none", "region a b c catch", "a: leave c", "b: return", "c: return");
        due("a return in a finally's handler", false, "method none", "region a b c finally", "a: leave c", "b: return", "c: return");
        due("a return behind a region", true, "method none", "region a b c finally", "a: leave c", "b: done", "c: return");
        due("a return with more on the stack", true, "method number", "const 1", "const 2", "return");
        due("a return of none with a stack", true, "method none", "const 1", "const 2", "return");
        due("a return without its result", false, "method number", "return");
        due("a return of another type", false, "method pair", "const 1", "return");
        due("a return of another type", false, "class", "class", "method object0", "new 1", "return");
        due("a return of its type", true, "class", "class", "method object1", "new 1", "return");
        due("a done outside", false, "method none", "done");
        due("a done behind a region", false, "method none", "region a b c finally", "a: leave c", "b: done", "c: done");
        due("a done in a part", false, "method none", "region a b c finally", "a: done", "b: done", "c: return");
        due("a done in a catch's handler", false, "method none", "region a b c catch", "a: leave c", "b: drop", "done", "c: return");
        due("a done with a stack", false, "method none", "region a b c finally", "a: leave c", "b: const 1", "done", "c: return");
        due("two dones", true, "method none", "region a b c finally", "a: leave c", "b: const 1", "if d", "done", "d: done", "c: return");
        due("a done in a part within the handler", false, "method none", "region a b c catch", "region o d e finally", "o: leave e", "d: nop", "a: done", "b: leave c", "c: done", "e: return");
        due("a done in a catch's handler within the handler", false, "method none", "region a b c catch", "region o d e finally", "o: leave e", "d: nop", "a: leave c", "b: drop", "done", "c: done", "e: return");
        due("a done in a finally's handler within a catch's handler", true, "method none", "region a b c finally", "region o d e catch", "o: leave e", "d: drop", "a: leave c", "b: done", "c: leave e", "e: return");
        due("a done in a finally's handler within a part", true, "method none", "region a b c finally", "region a d e catch", "a: leave c", "b: done", "c: leave e", "d: leave e", "e: return");
    }

    private static void depthAndType() {
        Asm asm = new Asm("class number", "class", "class", "class",
            "method number number pair place / number array box object3",
            "region a b e catch",
            "const 5", "arg 1", "p: arg 2", "get 1", "get 2", "get 3", "null object0", "q: dup", "r: drop", "drop", "drop",
            "drop", "drop", "drop", "drop", "drop", "a: const 1", "s: leave e", "b: t: set 0", "leave e", "e: const 3",
            "return", "dead: nop");
        TypedEngine x = asm.engine();
        Check.due("verified", x.verified(0), true);
        Check.due("depth of 0", x.depth(0, 0), 0);
        Check.due("depth of p", x.depth(0, asm.at(0, "p")), 2);
        int[] types = {1, 2, 3, 4, 5, 11, 8, 8};
        Check.due("depth of q", x.depth(0, asm.at(0, "q")), 7);
        Check.due("depth of r", x.depth(0, asm.at(0, "r")), 8);
        for (int i = 0; i < 8; i++) {
            Check.due("type " + i + " at r", x.type(0, asm.at(0, "r"), i), types[i]);
            Check.due("type " + i + " at q", x.type(0, asm.at(0, "q"), i), i < 7 ? types[i] : 0);
        }
        int[] none = {-1, 8, 9, 15, 16, 31, 32, 64, Integer.MAX_VALUE, Integer.MIN_VALUE, -8, -32};
        for (int i : none) {
            Check.due("type " + i + " at r", x.type(0, asm.at(0, "r"), i), 0);
        }
        Check.due("depth of a", x.depth(0, asm.at(0, "a")), 0);
        Check.due("depth of s", x.depth(0, asm.at(0, "s")), 1);
        Check.due("depth of a catch's middle", x.depth(0, asm.at(0, "t")), 1);
        Check.due("type of a catch's middle", x.type(0, asm.at(0, "t"), 0), 1);
        Check.due("depth behind a leave", x.depth(0, asm.at(0, "e")), 0);
        Check.due("type behind a leave", x.type(0, asm.at(0, "e"), 0), 0);
        Check.due("depth where nothing goes", x.depth(0, asm.at(0, "dead")), -1);
        Check.due("type where nothing goes", x.type(0, asm.at(0, "dead"), 0), 0);
        Check.due("depth of a second byte", x.depth(0, 1), -1);
        Check.due("type of a second byte", x.type(0, asm.at(0, "p") + 1, 0), 0);
        int[] places = {-1, asm.at(0, "dead") + 1, 99, 100, 101, 255, 600, Integer.MAX_VALUE, Integer.MIN_VALUE};
        for (int p : places) {
            Check.due("depth of " + p, x.depth(0, p), -1);
            Check.due("type of " + p, x.type(0, p, 0), 0);
        }
    }
}
