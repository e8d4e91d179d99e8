/** Promises 12 and 13: look and peek. */
public final class LookTest {
    public static void main(String[] args) {
        aRunStepByStep();
        noRun();
        overAndTrapped();
        peekOfOtherTypes();
        Check.finish("LookTest");
    }

    private static void due(TypedEngine x, int method, int place, int active, int depth, int made) {
        int[] want = {method, place, active, depth, made};
        for (int what = 0; what <= 4; what++) {
            Check.due("look(" + what + ") at " + method + ":" + place, x.look(what), want[what]);
        }
        int[] none = {-1, 5, 6, 100, Integer.MIN_VALUE, Integer.MAX_VALUE};
        for (int what : none) {
            Check.due("look(" + what + ")", x.look(what), -1);
        }
    }

    private static void aRunStepByStep() {
        TypedEngine x = new Asm("class number",
            "method number number", "arg 0", "new 0", "const 7", "call 2", "const 2", "array", "drop", "return",
            "method none", "return",
            "method none object0 number", "nop", "call 1", "arg 0", "arg 1", "store 0.0", "return").engine();
        x.start(0, 31, 0);
        int[][] rows = {{0, 0, 1, 0, 0}, {0, 2, 1, 1, 0}, {0, 4, 1, 2, 1}, {0, 6, 1, 3, 1}, {2, 0, 2, 0, 1}, {2, 1, 2, 0, 1},
            {1, 0, 3, 0, 1}, {2, 3, 2, 0, 1}, {2, 5, 2, 1, 1}, {2, 7, 2, 2, 1}, {2, 9, 2, 0, 1}, {0, 8, 1, 1, 1}, {0, 10, 1, 2, 1},
            {0, 11, 1, 2, 2}, {0, 12, 1, 1, 2}};
        for (int[] row : rows) {
            due(x, row[0], row[1], row[2], row[3], row[4]);
            Check.due("a look changes nothing", x.state(), 1);
            Check.due("peek(0)", x.peek(0), row[0] == 0 && row[3] > 0 ? 31 : 0);
            boolean seven = row[0] == 2 && row[3] == 2;
            Check.due("peek(1)", x.peek(1), seven ? 7 : row[1] == 10 ? 2 : 0);
            Check.due("peek(2)", x.peek(2), row[3] == 3 ? 7 : 0);
            Check.due("step(1)", x.step(1), 1);
        }
        Check.due("it is over", x.state(), 2);
        Check.due("its result", x.result(), 31);
        due(x, -1, -1, -1, -1, 2);
    }

    private static void noRun() {
        TypedEngine x = new Asm("method number", "const 5", "return").engine();
        due(x, -1, -1, -1, -1, -1);
        Check.due("peek(0)", x.peek(0), 0);
        x.start(0, 0, 0);
        x.step(1);
        Check.due("peek(0)", x.peek(0), 5);
        x.load();
        due(x, -1, -1, -1, -1, -1);
        Check.due("peek(0)", x.peek(0), 0);
    }

    private static void overAndTrapped() {
        TypedEngine x = new Asm("class", "method number number", "new 0", "drop", "const 5", "arg 0", "if a", "return", "a: dup", "throw").engine();
        x.start(0, 0, 0);
        x.step(5);
        due(x, 0, 9, 1, 1, 1);
        Check.due("peek(0)", x.peek(0), 5);
        x.step(1);
        due(x, -1, -1, -1, -1, 1);
        Check.due("peek(0)", x.peek(0), 0);
        x.start(0, 1, 0);
        due(x, 0, 0, 1, 0, 0);
        x.step(6);
        due(x, 0, 11, 1, 2, 1);
        Check.due("peek(1)", x.peek(1), 5);
        x.step(1);
        Check.due("trapped", x.state(), 3);
        due(x, -1, -1, -1, -1, 1);
        Check.due("peek(0)", x.peek(0), 0);
    }

    private static void peekOfOtherTypes() {
        TypedEngine x = new Asm("class number", "method none number number / number",
            "arg 0", "arg 0", "arg 1", "pair", "spot 0", "const 3", "array", "arg 0", "arg 1", "pair", "box", "new 0", "const -3", "null array", "nop", "return").engine();
        x.start(0, 44, 55);
        x.step(14);
        Check.due("look(3)", x.look(3), 8);
        int[] want = {44, 0, 0, 0, 0, 0, -3, 0};
        for (int i = 0; i < 8; i++) {
            Check.due("peek(" + i + ")", x.peek(i), want[i]);
        }
        int[] none = {-1, 8, 9, 16, 32, 64, -8, Integer.MAX_VALUE, Integer.MIN_VALUE};
        for (int i : none) {
            Check.due("peek(" + i + ")", x.peek(i), 0);
        }
        TypedEngine y = new Asm("method none number", "arg 0 arg 0 arg 0 arg 0 arg 0 arg 0 arg 0 arg 0", "drop", "drop", "return").engine();
        y.start(0, Integer.MIN_VALUE, 0);
        y.step(8);
        for (int i = 0; i < 8; i++) {
            Check.due("peek(" + i + ")", y.peek(i), Integer.MIN_VALUE);
        }
        y.step(1);
        Check.due("peek(6)", y.peek(6), Integer.MIN_VALUE);
        Check.due("peek(7), which was taken", y.peek(7), 0);
    }
}
