/** What each instruction does in a run. */
public final class InstructionTest {
    private static final int MIN = Integer.MIN_VALUE;
    private static final int MAX = Integer.MAX_VALUE;

    public static void main(String[] args) {
        numbers();
        localsAndArguments();
        jumps();
        objects();
        arrays();
        places();
        pairsAndBoxes();
        calls();
        whatThrows();
        fortyThings();
        eightActive();
        Check.finish("InstructionTest");
    }

    /** The run of method 0 is over with that result. */
    private static void gives(int want, int a, int b, String... lines) {
        TypedEngine x = new Asm(lines).engine();
        Check.due("start of " + String.join(", ", lines), x.start(0, a, b), true);
        x.step(500);
        Check.due("state of " + String.join(", ", lines), x.state(), 2);
        Check.due("result of " + String.join(", ", lines), x.result(), want);
    }

    /** The run of method 0 is trapped by that number after so many steps. */
    private static void traps(int want, int steps, int a, int b, String... lines) {
        TypedEngine x = new Asm(lines).engine();
        Check.due("start of " + String.join(", ", lines), x.start(0, a, b), true);
        Check.due("steps of " + String.join(", ", lines), x.step(500), steps);
        Check.due("state of " + String.join(", ", lines), x.state(), 3);
        Check.due("thrown by " + String.join(", ", lines), x.result(), want);
    }

    private static void two(String op, int want, int a, int b) {
        gives(want, a, b, "method number number number", "arg 0", "arg 1", op, "return");
    }

    private static void numbers() {
        for (int k : new int[] {0, 1, 100, 127, -1, -100, -127, -128}) {
            gives(k, 0, 0, "method number", "const " + k, "return");
        }
        two("add", 7, 3, 4);
        two("add", MIN, MAX, 1);
        two("add", -2, MAX, MAX);
        two("sub", -1, 3, 4);
        two("sub", MAX, MIN, 1);
        two("sub", MIN, 0, MIN);
        two("mul", 12, 3, 4);
        two("mul", 0, 65536, 65536);
        two("mul", MIN, MIN, -1);
        two("mul", 1, MAX, MAX);
        two("div", 2, 7, 3);
        two("div", -2, -7, 3);
        two("div", -2, 7, -3);
        two("div", 2, -7, -3);
        two("div", 0, 2, 3);
        two("div", MIN, MIN, -1);
        two("div", MIN, MIN, 1);
        two("div", 1, MIN, MIN);
        traps(1, 3, 7, 0, "method number number number", "arg 0", "arg 1", "div", "return");
        traps(1, 3, 0, 0, "method number number number", "arg 0", "arg 1", "div", "return");
        gives(9, 3, 0, "method number number", "nop", "arg 0", "dup", "mul", "nop", "return");
        gives(3, 3, 8, "method number number number", "arg 0", "arg 1", "drop", "return");
    }

    private static void localsAndArguments() {
        gives(1234, 12, 34, "method number number number number / number number",
            "arg 0", "set 1", "arg 1", "set 0", "get 1", "const 100", "mul", "get 0", "add", "return");
        gives(5, 1, 2, "method number number number number", "const 5", "put 2", "arg 2", "return");
        gives(7, 1, 2, "method number number number", "const 6", "put 0", "arg 0", "const 1", "add", "return");
        gives(2, 1, 2, "method number number number", "const 6", "put 0", "arg 1", "return");
        gives(46, 0, 0, "method number / number pair number pair",
            "const 1", "set 0", "const 4", "const 5", "pair", "set 1", "const 2", "set 2", "const 6", "const 7", "pair", "set 3",
            "get 1", "first", "const 10", "mul", "get 3", "first", "add", "return");
        gives(0, 9, 9, "method number / number", "get 0", "return");
        gives(0, 9, 9, "method pair / pair", "get 0", "return");
        gives(0, 9, 9, "method number / pair", "get 0", "second", "return");
        traps(2, 2, 0, 0, "method number / array", "get 0", "size", "return");
        traps(2, 2, 0, 0, "method pair / box", "get 0", "open", "return");
        traps(2, 2, 0, 0, "class number", "method number / object0", "get 0", "field 0.0", "return");
    }

    private static void jumps() {
        for (int a : new int[] {0, 1, -1, 2, 256, MIN, MAX}) {
            gives(a != 0 ? 20 : 10, a, 0, "method number number", "arg 0", "if a", "const 10", "return", "a: const 20", "return");
        }
        int[] some = {0, 1, -1, 5, MIN, MAX};
        for (int a : some) {
            for (int b : some) {
                gives(a < b ? 20 : 10, a, b, "method number number number", "arg 0", "arg 1", "less a", "const 10", "return", "a: const 20", "return");
            }
        }
        gives(20, 0, 0, "method number", "go a", "const 10", "return", "a: const 20", "return");
        gives(55, 10, 0, "method number number / number", "a: arg 0", "get 0", "add", "set 0", "arg 0", "const 1", "sub", "dup", "put 0", "if a", "get 0", "return");
        gives(3, 0, 0, "method number", "go b", "a: const 3", "return", "b: go a");
        gives(8, 0, 0, "method number", "const 8", "const 1", "if a", "a: return");
        gives(6, 0, 0, "method number", "const 8", "leave a", "nop", "a: const 6", "return");
    }

    private static void objects() {
        String[] head = {"class number pair array box", "class object0 object1 number number"};
        gives(0, 0, 0, head[0], head[1], "method number", "new 0", "field 0.0", "return");
        gives(0, 0, 0, head[0], head[1], "method pair", "new 0", "field 0.1", "return");
        traps(2, 3, 0, 0, head[0], head[1], "method number", "new 0", "field 0.2", "size", "return");
        traps(2, 3, 0, 0, head[0], head[1], "method pair", "new 0", "field 0.3", "open", "return");
        traps(2, 3, 0, 0, head[0], head[1], "method number", "new 1", "field 1.0", "field 0.0", "return");
        gives(7, 7, 0, head[0], head[1], "method number number / object0 object0",
            "new 0", "set 0", "get 0", "set 1", "get 0", "arg 0", "store 0.0", "get 1", "field 0.0", "return");
        gives(0, 7, 0, head[0], head[1], "method number number / object0 object0",
            "new 0", "set 0", "new 0", "set 1", "get 0", "arg 0", "store 0.0", "get 1", "field 0.0", "return");
        gives(34, 0, 0, head[0], head[1], "method number / object1", "new 1", "set 0", "get 0", "const 3", "store 1.2",
            "get 0", "const 4", "store 1.3", "get 0", "field 1.2", "const 10", "mul", "get 0", "field 1.3", "add", "return");
        gives(9, 0, 0, head[0], head[1], "method pair / object0", "new 0", "dup", "set 0", "const 9", "const 8", "pair", "store 0.1", "get 0", "field 0.1", "return");
        gives(5, 0, 0, head[0], head[1], "method number / object1 object0", "new 1", "set 0", "new 0", "set 1",
            "get 0", "get 1", "store 1.0", "get 0", "get 0", "store 1.1", "get 1", "const 5", "store 0.0",
            "get 0", "field 1.1", "field 1.1", "field 1.0", "field 0.0", "return");
        gives(11, 0, 0, head[0], head[1], "method number / object0", "new 0", "set 0", "get 0", "const 11", "array", "store 0.2", "get 0", "field 0.2", "size", "return");
        traps(2, 2, 0, 0, head[0], head[1], "method number", "null object0", "field 0.0", "return");
        traps(2, 3, 0, 0, head[0], head[1], "method none", "null object0", "const 1", "store 0.0", "return");
        traps(2, 2, 0, 0, head[0], head[1], "method none", "null object0", "at 0.0", "return");
        traps(2, 2, 0, 0, head[0], head[1], "method none", "null object1", "field 1.1", "return");
    }

    private static void arrays() {
        for (int n : new int[] {0, 1, 2, 19, 20}) {
            gives(n, n, 0, "method number number", "arg 0", "array", "size", "return");
        }
        for (int n : new int[] {-1, 21, 22, 100, MIN, MAX}) {
            traps(3, 2, n, 0, "method number number", "arg 0", "array", "size", "return");
        }
        for (int i : new int[] {0, 1, 2, 19}) {
            gives(0, i, 0, "method number number", "const 20", "array", "arg 0", "item", "return");
            gives(77, i, 77, "method number number number / array", "const 20", "array", "set 0", "get 0", "arg 0", "arg 1", "keep", "get 0", "arg 0", "item", "return");
            gives(78, i, 78, "method number number number / array", "const 20", "array", "set 0", "get 0", "arg 0", "point", "arg 1", "save", "get 0", "arg 0", "point", "load", "return");
        }
        for (int i : new int[] {-1, 3, 4, 19, 20, 21, MIN, MAX}) {
            traps(3, 4, i, 0, "method number number", "const 3", "array", "arg 0", "item", "return");
            traps(3, 5, i, 0, "method number number", "const 3", "array", "arg 0", "const 1", "keep", "const 1", "return");
            traps(3, 4, i, 0, "method number number", "const 3", "array", "arg 0", "point", "load", "return");
            traps(2, 3, i, 0, "method number number", "null array", "arg 0", "item", "return");
            traps(2, 4, i, 0, "method number number", "null array", "arg 0", "const 1", "keep", "const 1", "return");
            traps(2, 3, i, 0, "method number number", "null array", "arg 0", "point", "load", "return");
        }
        traps(3, 4, 0, 0, "method number", "const 0", "array", "const 0", "item", "return");
        traps(2, 2, 0, 0, "method number", "null array", "size", "return");
        gives(123, 0, 0, "method number / array array", "const 20", "array", "set 0", "const 20", "array", "set 1",
            "get 0", "const 19", "const 123", "keep", "get 1", "const 0", "const 5", "keep", "get 0", "const 19", "item", "return");
        gives(34, 3, 4, "method number number number / array", "const 2", "array", "set 0", "get 0", "const 0", "arg 0", "keep",
            "get 0", "const 1", "arg 1", "keep", "get 0", "const 0", "item", "const 10", "mul", "get 0", "const 1", "item", "add", "return");
        gives(6, 0, 0, "method number / array array", "const 2", "array", "dup", "set 0", "set 1", "get 0", "const 1", "const 6", "keep", "get 1", "const 1", "item", "return");
    }

    private static void places() {
        gives(9, 0, 0, "method number / number number", "spot 1", "const 9", "save", "get 1", "return");
        gives(0, 0, 0, "method number / number number", "spot 1", "const 9", "save", "get 0", "return");
        gives(9, 9, 0, "method number number / number", "arg 0", "set 0", "spot 0", "load", "return");
        gives(12, 0, 0, "class pair number", "method number / object0", "new 0", "set 0", "get 0", "at 0.1", "dup", "const 12", "save", "load", "return");
        gives(12, 0, 0, "class pair number", "method number / object0", "new 0", "set 0", "get 0", "at 0.1", "const 12", "save", "get 0", "field 0.1", "return");
        gives(0, 0, 0, "class pair number", "method pair / object0", "new 0", "set 0", "get 0", "at 0.1", "const 12", "save", "get 0", "field 0.0", "return");
        gives(21, 0, 0, "method number / number", "spot 0", "dup", "call 1", "load", "return",
            "method none place", "arg 0", "const 21", "save", "return");
        gives(5, 0, 0, "method number / number", "spot 0", "call 1", "get 0", "return",
            "method none place / number", "const 8", "set 0", "arg 0", "call 2", "return",
            "method none place / number", "arg 0", "const 5", "save", "const 6", "set 0", "return");
        gives(3, 0, 0, "method number / number number", "const 3", "set 0", "spot 1", "call 1", "get 0", "return",
            "method none place", "arg 0", "const 5", "save", "return");
        gives(45, 0, 0, "method number / number number", "spot 0", "spot 1", "call 1", "get 0", "const 10", "mul", "get 1", "add", "return",
            "method none place place", "arg 0", "const 4", "save", "arg 1", "put 0", "arg 0", "const 5", "save", "return");
        gives(7, 3, 0, "method number number / number", "arg 0", "set 0", "spot 0", "arg 0", "call 1", "get 0", "return",
            "method none place number / number", "arg 1", "if a", "arg 0", "const 7", "save", "return",
            "a: const 99", "set 0", "arg 0", "arg 1", "const 1", "sub", "call 1", "return");
    }

    private static void pairsAndBoxes() {
        for (int a : new int[] {0, 1, -1, MIN, MAX}) {
            for (int b : new int[] {0, 1, -1, MIN, MAX}) {
                gives(a, a, b, "method number number number", "arg 0", "arg 1", "pair", "first", "return");
                gives(b, a, b, "method number number number", "arg 0", "arg 1", "pair", "second", "return");
                gives(b, a, b, "method number number number", "arg 0", "arg 1", "pair", "box", "open", "second", "return");
                gives(a, a, b, "method pair number number / box", "arg 0", "arg 1", "pair", "box", "set 0", "get 0", "open", "return");
            }
        }
        gives(5, 0, 0, "method number / box pair", "const 4", "const 5", "pair", "dup", "set 1", "box", "set 0",
            "const 6", "const 7", "pair", "set 1", "get 0", "open", "second", "return");
        gives(4, 0, 0, "method number / box box", "const 4", "const 5", "pair", "box", "set 0", "const 6", "const 7", "pair", "box", "set 1", "get 0", "open", "first", "return");
        traps(2, 2, 0, 0, "method pair", "null box", "open", "return");
    }

    private static void calls() {
        gives(123, 0, 0, "method number", "const 1", "const 2", "const 3", "call 1", "return",
            "method number number number number", "arg 0", "const 10", "mul", "arg 1", "add", "const 10", "mul", "arg 2", "add", "return");
        gives(8, 0, 0, "method number", "const 5", "call 1", "const 3", "add", "return", "method none", "const 9", "return");
        gives(120, 5, 0, "method number number", "arg 0", "const 1", "less a", "arg 0", "arg 0", "const 1", "sub", "call 0", "mul", "return", "a: const 1", "return");
        gives(6, 0, 0, "method pair", "call 1", "return", "method pair", "const 6", "const 7", "pair", "return");
        gives(2, 0, 0, "method number / array", "call 1", "dup", "set 0", "size", "return", "method array", "const 2", "array", "return");
        gives(3, 0, 0, "method number / array", "const 1", "array", "set 0", "get 0", "call 1", "get 0", "const 0", "item", "return",
            "method none array", "arg 0", "const 0", "const 3", "keep", "null array", "put 0", "return");
        gives(3, 0, 0, "method number", "const 3", "const 4", "call 1", "drop", "return", "method number number", "const 7", "put 0", "arg 0", "const 5", "return");
        gives(0, 0, 0, "method number", "call 1", "call 1", "add", "return",
            "method number / number", "get 0", "const 5", "set 0", "return");
        traps(2, 4, 0, 0, "method number", "call 1", "size", "return", "method array / array", "get 0", "return");
    }

    private static void whatThrows() {
        String[][] kinds = {{"1", "const 1", "const 0", "div", "drop"}, {"2", "null array", "size", "drop"},
            {"3", "const 21", "array", "drop"}, {"3", "const -1", "array", "drop"}, {"2", "null box", "open", "drop"},
            {"9", "const 9", "throw"}, {"-9", "const 4", "const 5", "const -9", "throw"}};
        for (String[] kind : kinds) {
            String[] lines = new String[kind.length + 6];
            lines[0] = "method number / number";
            lines[1] = "region a b c catch";
            lines[2] = "a: const 50 drop";
            System.arraycopy(kind, 1, lines, 3, kind.length - 1);
            lines[kind.length + 2] = "leave c";
            lines[kind.length + 3] = "b: set 0";
            lines[kind.length + 4] = "leave c";
            lines[kind.length + 5] = "c: get 0 return";
            gives(Integer.parseInt(kind[0]), 0, 0, lines);
        }
    }

    private static void fortyThings() {
        String[] makers = {"new 0", "const 3 array", "const 1 const 2 pair box"};
        for (String maker : makers) {
            String loop = "a: " + maker + " drop arg 0 const 1 sub dup put 0 if a return";
            for (int count : new int[] {1, 39, 40, 41, 45}) {
                TypedEngine x = new Asm("class number", "method none number", loop).engine();
                x.start(0, count, 0);
                x.step(500);
                x.step(500);
                Check.due(maker + " " + count + " times: state", x.state(), count <= 40 ? 2 : 3);
                Check.due(maker + " " + count + " times: result", x.result(), count <= 40 ? 0 : 4);
                Check.due(maker + " " + count + " times: made", x.look(4), Math.min(count, 40));
            }
        }
        mixedThings();
        String fill = "f: new 0 drop arg 0 const 1 sub dup put 0 if f";
        traps(4, 8 * 40 + 2, 40, 0, "class", "method none number", fill, "const 20", "array", "drop", "return");
        arrayLooksAtItsNumberFirst(fill);
        thingsLieApart();
    }

    /** A chain of 20 objects with an array of 20 each: every number in them keeps its own value. */
    private static void thingsLieApart() {
        TypedEngine x = new Asm("class object0 array number",
            "method number / object0 object0 number number",
            "const 20 set 2",
            "a: new 0 set 1  get 1 get 0 store 0.0  get 1 const 20 array store 0.1  get 1 get 2 store 0.2  get 1 set 0",
            "get 0 get 2 call 1  get 2 const 1 sub dup set 2 if a",
            "b: get 0 call 2 get 3 add set 3  get 0 field 0.0 set 0  get 2 const 1 add dup set 2 const 20 less b",
            "get 3 return",
            "method none object0 number / number",
            "a: arg 0 field 0.1 get 0 arg 1 const 20 mul get 0 add keep  get 0 const 1 add dup set 0 const 20 less a return",
            "method number object0 / number number",
            "a: arg 0 field 0.1 get 0 item  arg 0 field 0.2 const 20 mul get 0 add  sub if w",
            "get 1 const 1 add set 1  w: get 0 const 1 add dup set 0 const 20 less a  get 1 return").engine();
        x.start(0, 0, 0);
        for (int i = 0; i < 60; i++) {
            x.step(500);
        }
        Check.due("it is over", x.state(), 2);
        Check.due("40 were made", x.look(4), 40);
        Check.due("all 400 numbers are as they were kept", x.result(), 400);
        localsLieApart();
        gives(50, 7, 0, "method number number / array", "const 1 array set 0 get 0 const 0 const 50 keep arg 0 call 1 get 0 const 0 item return",
            "method none number / number number number number", "arg 0 const 1 sub dup put 0 if a return", "a: arg 0 call 1 return");
        fieldsOfPairsLieApart();
    }

    /** Eight active methods with four locals each: every local keeps its own value. */
    private static void localsLieApart() {
        gives(88, 7, 0, "method number number / number number number number",
            "arg 0 set 0 arg 0 const 10 add set 1 arg 0 const 20 add set 2 arg 0 const 30 add set 3",
            "arg 0 if a const 0 go b", "a: arg 0 const 1 sub call 0",
            "b: get 0 arg 0 sub const 1 add add",
            "get 1 get 0 sub const 9 sub add get 2 get 1 sub const 10 sub const 9 add add get 3 get 2 sub const 10 sub add return");
    }

    private static void fieldsOfPairsLieApart() {
        gives(12, 0, 0, "class pair pair pair pair", "method number / object0 object0", "new 0 set 0 new 0 set 1",
            "get 0 const 1 const 2 pair store 0.0 get 0 const 3 const 4 pair store 0.1 get 0 const 5 const 6 pair store 0.3",
            "get 1 const 7 const 8 pair store 0.0", "get 0 field 0.0 first const 10 mul get 0 field 0.0 second add",
            "get 0 field 0.2 second add return");
    }

    private static void arrayLooksAtItsNumberFirst(String fill) {
        for (int n : new int[] {-1, 21, 0, 20}) {
            TypedEngine x = new Asm("class", "method none number number", fill, "arg 1", "array", "drop", "return").engine();
            x.start(0, 40, n);
            x.step(500);
            Check.due("array of " + n + " when there are 40", x.result(), n < 0 || n > 20 ? 3 : 4);
            Check.due("still 40", x.look(4), 40);
        }
    }

    private static void mixedThings() {
        TypedEngine x = new Asm("class number", "method number number", "a: new 0 drop const 1 array drop const 1 const 2 pair box drop "
            + "arg 0 const 1 sub dup put 0 if a const 5 return").engine();
        x.start(0, 13, 0);
        x.step(500);
        Check.due("39 made", x.look(4), 39);
        Check.due("it is over", x.result(), 5);
        x.start(0, 14, 0);
        Check.due("none made", x.look(4), 0);
        x.step(500);
        Check.due("40 made", x.look(4), 40);
        Check.due("trapped", x.state(), 3);
        Check.due("by 4", x.result(), 4);
    }

    private static void eightActive() {
        String[] lines = {"method number number", "arg 0", "if a", "const 1", "return", "a: arg 0", "const 1", "sub", "call 0", "const 1", "add", "return"};
        for (int deep = 0; deep <= 10; deep++) {
            if (deep <= 7) {
                gives(deep + 1, deep, 0, lines);
            } else {
                traps(5, 8 * 6, deep, 0, lines);
            }
        }
        gives(5, 0, 0, "method number", "region a b c catch", "a: call 0", "drop", "leave c", "b: call 1", "leave c", "c: const 5", "return",
            "method none number", "return");
        TypedEngine x = new Asm("method none", "call 0", "return").engine();
        x.start(0, 0, 0);
        for (int i = 1; i <= 7; i++) {
            Check.due("a call", x.step(1), 1);
            Check.due("active", x.look(2), i + 1);
        }
        Check.due("one more", x.step(1), 1);
        Check.due("trapped", x.state(), 3);
        Check.due("by 5", x.result(), 5);
    }
}
