/** Promises 8 to 11: start, step, state and result. */
public final class StartTest {
    public static void main(String[] args) {
        whatCanBeStarted();
        whatItCanComeToCall();
        theArguments();
        aNewRunBeginsAnew();
        refusedStartChangesNothing();
        steps();
        states();
        results();
        Check.finish("StartTest");
    }

    private static void whatCanBeStarted() {
        String[] types = {"number", "pair", "place", "array", "box", "object0"};
        for (String type : types) {
            boolean is = type.equals("number");
            TypedEngine x = new Asm("class", "method none " + type, "return", "method none number " + type, "return",
                "method none number number " + type, "return", "method none " + type + " number number", "return",
                "method none", "return").engine();
            for (int m = 0; m <= 3; m++) {
                Check.due("verified(" + m + ") with " + type, x.verified(m), true);
                Check.due("start(" + m + ") with " + type, x.start(m, 1, 2), is);
            }
            Check.due("start(4)", x.start(4, 1, 2), true);
            int[] none = {-1, 5, 6, 7, 255, 256, Integer.MAX_VALUE, Integer.MIN_VALUE};
            for (int m : none) {
                Check.due("start(" + m + ")", x.start(m, 0, 0), false);
            }
        }
        TypedEngine x = new Asm("method none", "drop", "return").engine();
        Check.due("start of what is not verified", x.start(0, 0, 0), false);
        Check.due("no run then", x.state(), 0);
    }

    private static void whatItCanComeToCall() {
        TypedEngine x = new Asm(
            "method none", "call 1", "return",
            "method none", "call 2", "return",
            "method none", "call 3", "return",
            "method none", "call 4", "return",
            "method none", "call 5", "return",
            "method none", "drop", "return").engine();
        for (int m = 0; m <= 5; m++) {
            Check.due("verified(" + m + ")", x.verified(m), m < 5);
            Check.due("start(" + m + ")", x.start(m, 0, 0), false);
        }
        TypedEngine y = new Asm(
            "method none", "return", "call 1",
            "method none", "drop", "return",
            "method none number", "arg 0", "if a", "call 1", "a: return",
            "method none", "go a", "call 2", "call 1", "a: return",
            "method none", "call 5", "return",
            "method none", "call 4", "call 0", "return").engine();
        boolean[] want = {true, false, false, true, true, true};
        for (int m = 0; m <= 5; m++) {
            Check.due("start(" + m + ") of those with calls", y.start(m, 0, 0), want[m]);
        }
        TypedEngine z = new Asm(
            "method none", "drop", "return",
            "method none", "call 0", "return",
            "method none", "call 1", "return",
            "method none", "call 2", "return",
            "method none", "call 3", "return",
            "method none", "call 4", "return").engine();
        for (int m = 0; m <= 5; m++) {
            Check.due("start(" + m + ") down to 0", z.start(m, 0, 0), false);
        }
        TypedEngine h = new Asm("method none", "region a b c catch", "a: leave c", "b: drop", "call 1", "leave c", "c: return",
            "method none", "drop", "return").engine();
        Check.due("a call in a handler", h.start(0, 0, 0), false);
    }

    private static void theArguments() {
        TypedEngine x = new Asm(
            "method none", "nop", "return",
            "method none number", "arg 0", "return",
            "method none number number", "arg 0", "arg 1", "return",
            "method none number number number", "arg 0", "arg 1", "arg 2", "const 7", "put 2", "return").engine();
        int[][] given = {{3, 4}, {Integer.MIN_VALUE, Integer.MAX_VALUE}, {-1, 0}, {0, -1}};
        for (int[] two : given) {
            for (int m = 0; m <= 3; m++) {
                Check.due("start", x.start(m, two[0], two[1]), true);
                x.step(m);
                Check.due("peek(0) of " + m, x.peek(0), m >= 1 ? two[0] : 0);
                Check.due("peek(1) of " + m, x.peek(1), m >= 2 ? two[1] : 0);
                Check.due("peek(2) of " + m, x.peek(2), 0);
                Check.due("look(3) of " + m, x.look(3), m);
                x.step(500);
            }
        }
    }

    private static void aNewRunBeginsAnew() {
        TypedEngine x = new Asm("class number array",
            "method number number / number array pair object0", "region a b e catch",
            "get 0", "if t", "get 2", "first", "if t", "get 2", "second", "if t",
            "a: get 1", "size", "set 0", "leave e", "b: const 2", "sub", "set 0", "leave e",
            "e: get 0", "if t", "new 0", "dup", "set 3", "field 0.0", "if t",
            "const 3", "array", "dup", "set 1", "const 2", "item", "if t",
            "const 5", "set 0", "const 6", "dup", "pair", "set 2",
            "get 1", "const 2", "const 9", "keep", "get 3", "const 8", "store 0.0", "get 0", "return",
            "t: const 77", "return").engine();
        for (int i = 0; i < 5; i++) {
            Check.due("start", x.start(0, 0, 0), true);
            Check.due("nothing made", x.look(4), 0);
            Check.due("nothing entered", x.entered(0, 0), 0);
            Check.due("result before", x.result(), 0);
            Check.due("state", x.state(), 1);
            Check.due("active", x.look(2), 1);
            Check.due("place", x.look(1), 0);
            Check.due("stack", x.look(3), 0);
            x.step(500);
            Check.due("state", x.state(), 2);
            Check.due("all was 0 or null at first", x.result(), 5);
            Check.due("made", x.look(4), 2);
            Check.due("entered", x.entered(0, 0), 1);
        }
    }

    private static void refusedStartChangesNothing() {
        TypedEngine x = new Asm("method number number", "arg 0", "const 1", "add", "return",
            "method none", "drop", "return", "method none pair", "return").engine();
        x.start(0, 5, 0);
        x.step(2);
        for (int m : new int[] {1, 2, 3, -1}) {
            Check.due("start(" + m + ")", x.start(m, 9, 9), false);
            Check.due("state", x.state(), 1);
            Check.due("look(0)", x.look(0), 0);
            Check.due("look(1)", x.look(1), 4);
            Check.due("look(3)", x.look(3), 2);
            Check.due("peek(0)", x.peek(0), 5);
        }
        Check.due("it goes on", x.step(9), 2);
        Check.due("result", x.result(), 6);
        Check.due("start(1)", x.start(1, 9, 9), false);
        Check.due("result stays", x.result(), 6);
        Check.due("state stays", x.state(), 2);
    }

    private static void steps() {
        TypedEngine x = new Asm("method number number", "a: arg 0", "const 1", "sub", "dup", "put 0", "if a", "const 42", "return").engine();
        Check.due("no run", x.step(0), -1);
        Check.due("no run", x.step(5), -1);
        x.start(0, 200, 0);
        int[] wrong = {-1, 501, 502, 1000, Integer.MIN_VALUE, Integer.MAX_VALUE};
        for (int n : wrong) {
            Check.due("step(" + n + ")", x.step(n), -1);
            Check.due("nothing was done", x.look(1), 0);
        }
        Check.due("step(0)", x.step(0), 0);
        Check.due("nothing was done", x.look(1), 0);
        Check.due("step(1)", x.step(1), 1);
        Check.due("one was done", x.look(1), 2);
        Check.due("step(5)", x.step(5), 5);
        Check.due("step(500)", x.step(500), 500);
        Check.due("step(499)", x.step(499), 499);
        Check.due("step(195)", x.step(195), 195);
        Check.due("it goes on", x.state(), 1);
        Check.due("place", x.look(1), 10);
        Check.due("step(500)", x.step(500), 2);
        Check.due("over", x.state(), 2);
        Check.due("step(1) of a run that is over", x.step(1), 0);
        Check.due("step(500) of a run that is over", x.step(500), 0);
        Check.due("step(501) of a run that is over", x.step(501), -1);
        Check.due("step(-1) of a run that is over", x.step(-1), -1);
        Check.due("result", x.result(), 42);
        TypedEngine y = new Asm("method none", "a: go a").engine();
        y.start(0, 0, 0);
        for (int i = 0; i < 50; i++) {
            Check.due("a run without an end", y.step(500), 500);
        }
        Check.due("it goes on", y.state(), 1);
        TypedEngine z = new Asm("method none", "const 3", "throw").engine();
        z.start(0, 0, 0);
        Check.due("the step that traps counts", z.step(7), 2);
        Check.due("trapped", z.state(), 3);
        Check.due("step of one that was trapped", z.step(7), 0);
        z.start(0, 0, 0);
        Check.due("just enough steps", z.step(2), 2);
        Check.due("trapped", z.state(), 3);
    }

    private static void states() {
        TypedEngine x = new TypedEngine();
        Check.due("no image", x.state(), 0);
        Asm.load(x, new Asm("method none number", "arg 0", "if a", "return", "a: const 9", "throw").bytes());
        Check.due("no run", x.state(), 0);
        x.start(0, 0, 0);
        Check.due("it goes on", x.state(), 1);
        x.step(2);
        Check.due("it goes on", x.state(), 1);
        x.step(1);
        Check.due("it is over", x.state(), 2);
        x.start(0, 1, 0);
        Check.due("it goes on", x.state(), 1);
        Check.due("no result", x.result(), 0);
        x.step(3);
        Check.due("it goes on", x.state(), 1);
        x.step(1);
        Check.due("it was trapped", x.state(), 3);
        Check.due("what was thrown", x.result(), 9);
        x.load();
        Check.due("no run", x.state(), 0);
        Check.due("no result", x.result(), 0);
    }

    private static void result(String what, int want, String... lines) {
        TypedEngine x = new Asm(lines).engine();
        Check.due(what + ": start", x.start(0, Integer.MIN_VALUE, 12), true);
        Check.due(what + ": before", x.result(), 0);
        while (x.step(1) == 1 && x.state() == 1) {
            Check.due(what + ": as it goes on", x.result(), 0);
        }
        Check.due(what + ": state", x.state(), 2);
        Check.due(what, x.result(), want);
    }

    private static void results() {
        result("a number", -7, "method number", "const -7", "return");
        result("a number", Integer.MIN_VALUE, "method number number", "arg 0", "return");
        result("the topmost number", 2, "method number", "const 1", "const 2", "return");
        result("a pair", 5, "method pair", "const 5", "const 6", "pair", "return");
        result("a pair", -5, "method pair", "const -5", "const -6", "pair", "return");
        result("a pair", Integer.MIN_VALUE, "method pair number number", "arg 0", "arg 1", "pair", "return");
        result("a pair", 12, "method pair number number", "arg 1", "arg 0", "pair", "return");
        result("none", 0, "method none", "const 5", "return");
        result("an array", 0, "method array", "const 5", "array", "return");
        result("null", 0, "method array", "null array", "return");
        result("a box", 0, "method box", "const 5", "const 6", "pair", "box", "return");
        result("an object", 0, "class number", "method object0", "new 0", "dup", "const 4", "store 0.0", "return");
        TypedEngine x = new Asm("method number number", "arg 0", "throw").engine();
        for (int e : new int[] {0, 1, -1, 7, Integer.MIN_VALUE, Integer.MAX_VALUE}) {
            x.start(0, e, 0);
            x.step(9);
            Check.due("state", x.state(), 3);
            Check.due("thrown", x.result(), e);
        }
    }
}
