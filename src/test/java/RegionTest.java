/** Promise 14, entered, and what a throw, a leave and a done do. */
public final class RegionTest {
    public static void main(String[] args) {
        throwsInOneMethod();
        throwsThroughCallers();
        leaves();
        dones();
        nestedHandlers();
        pendingIsEachMethodsOwn();
        entries();
        Check.finish("RegionTest");
    }

    /** The trail is what the method writes into its result: a decimal number, a digit for each place it came by. */
    private static void gives(String what, int state, int want, int a, String... lines) {
        TypedEngine x = new Asm(lines).engine();
        Check.due(what + ": start", x.start(0, a, 0), true);
        x.step(500);
        Check.due(what + ": state", x.state(), state);
        Check.due(what, x.result(), want);
    }

    /** Code that puts the digit behind the number in local 0. */
    private static String mark(int digit) {
        return " get 0 const 10 mul const " + digit + " add set 0 ";
    }

    private static void throwsInOneMethod() {
        gives("a catch", 2, 9, 0, "method number / number", "region a b c catch", "a: const 9 throw", "b: set 0 leave c", "c: get 0 return");
        gives("no throw", 2, 0, 0, "method number / number", "region a b c catch", "a: leave c", "b: set 0 leave c", "c: get 0 return");
        gives("thrown before the part", 3, 9, 0, "method number / number", "region a b c catch", "const 9 throw", "a: leave c", "b: set 0 leave c", "c: get 0 return");
        gives("thrown before the part", 3, 1, 0, "method number / number", "region a b c catch", "const 9 get 0 div set 0", "a: leave c", "b: set 0 leave c", "c: get 0 return");
        gives("thrown at the part's first", 2, 2, 0, "method number / number array", "region a b c catch", "nop",
            "a: call 1", "leave c", "b: set 0 leave c", "c: get 0 return", "method none", "null array size return");
        gives("thrown at the part's last", 2, 4, 0, "method number / number", "region a b c catch", "a: const 4 throw", "b: set 0 leave c", "c: get 0 return");
        gives("thrown in the catch's handler", 3, 7, 0, "method number / number", "region a b c catch", "a: const 4 throw", "b: const 3 add throw", "c: get 0 return");
        gives("thrown behind", 3, 8, 0, "method number / number", "region a b c catch", "a: const 4 throw", "b: leave c", "c: const 8 throw");
        gives("the inner catch", 2, 1, 0, "method number / number", "region a b c catch", "region a d e catch",
            "a: const 5 throw", "b: drop" + mark(1) + "leave e", "c: leave e", "d: drop" + mark(2) + "leave e", "e: get 0 return");
        gives("the outer catch, from the inner handler", 2, 12, 0, "method number / number", "region a b c catch", "region a d e catch",
            "a: const 5 throw", "b: drop" + mark(1) + "const 6 throw", "c: leave e", "d: drop" + mark(2) + "leave e", "e: get 0 return");
        gives("the outer catch, from the outer part", 2, 2, 0, "method number / number", "region a b c catch", "region a d e catch",
            "a: leave c", "b: drop" + mark(1) + "leave c", "c: const 5 throw", "d: drop" + mark(2) + "leave e", "e: get 0 return");
        gives("another region's catch is not there", 3, 5, 0, "method number / number", "region a b c catch", "region d e f catch",
            "a: leave c", "b: leave c", "c: leave d2", "nop", "d: leave f", "e: drop leave f", "f: d2: const 5 throw");
        gives("the catch's stack is the number alone", 2, 6, 0, "method number / number", "region a b c catch",
            "a: const 1 const 2 const 3 const 4 const 5 const 7 const 8 const 6 throw", "b: set 0 leave c", "c: get 0 return");
        gives("caught where eight are", 2, 1, 0, "method number / number", "region a b c catch",
            "a: const 1 const 2 const 3 const 4 const 5 const 7 const 8 const 0 div drop", "leave c", "b: set 0 leave c", "c: get 0 return");
    }

    private static void throwsThroughCallers() {
        gives("to the caller", 2, 33, 33, "method number number / number", "region a b c catch", "a: arg 0 call 1 leave c", "b: set 0 leave c", "c: get 0 return",
            "method none number", "arg 0 throw");
        gives("to the caller's caller", 2, 33, 33, "method number number / number", "region a b c catch", "a: arg 0 call 1 leave c", "b: set 0 leave c", "c: get 0 return",
            "method none number", "arg 0 call 2 return", "method none number", "arg 0 throw");
        gives("to none", 3, 33, 33, "method number number", "arg 0 call 1 const 1 return", "method none number", "arg 0 call 2 return", "method none number", "arg 0 throw");
        gives("the call's place counts, not the one behind", 2, 1, 33, "method number number / number", "region a b c catch", "region c d e catch",
            "go a", "a: const 1 drop arg 0 call 1", "leave c2", "b: drop" + mark(1) + "leave c2", "c: leave c2", "d: drop" + mark(2) + "leave c2", "e: c2: get 0 return",
            "method none number", "arg 0 throw");
        gives("a call behind the part", 3, 33, 33, "method number number / number", "region a b c catch", "a: leave c", "b: drop leave c", "c: arg 0 call 1 const 1 return",
            "method none number", "arg 0 throw");
        gives("a finally in each", 3, 33, 33, "method none number", "region a b c finally", "a: arg 0 call 1 leave c", "b: done", "c: return",
            "method none number", "region a b c finally", "a: arg 0 throw", "b: done", "c: return");
        TypedEngine x = new Asm("method none number", "region a b c finally", "a: arg 0 call 1 leave c", "b: done", "c: return",
            "method none number", "region a b c finally", "a: arg 0 throw", "b: done", "c: return").engine();
        x.start(0, 5, 0);
        x.step(4);
        Check.due("in the called one's handler: method", x.look(0), 1);
        Check.due("active", x.look(2), 2);
        Check.due("entered(1, 0)", x.entered(1, 0), 1);
        Check.due("entered(0, 0)", x.entered(0, 0), 0);
        x.step(1);
        Check.due("in the caller's handler: method", x.look(0), 0);
        Check.due("active", x.look(2), 1);
        Check.due("stack", x.look(3), 0);
        Check.due("entered(0, 0)", x.entered(0, 0), 1);
        Check.due("the last done", x.step(9), 1);
        Check.due("trapped", x.state(), 3);
        Check.due("by 5", x.result(), 5);
    }

    private static void leaves() {
        gives("through a finally", 2, 12, 0, "method number / number", "region a b c finally", "a:" + mark(1) + "leave c", "b:" + mark(2) + "done", "c: get 0 return");
        gives("through two", 2, 123, 0, "method number / number", "region a b c finally", "region a d e finally", "a:" + mark(1) + "leave e",
            "b:" + mark(2) + "done", "c:" + mark(9) + "leave e", "d:" + mark(3) + "done", "e: get 0 return");
        gives("through one, then behind it through the other", 2, 1293, 0, "method number / number", "region a b c finally", "region a d e finally", "a:" + mark(1) + "leave c",
            "b:" + mark(2) + "done", "c:" + mark(9) + "leave e", "d:" + mark(3) + "done", "e: get 0 return");
        gives("past a catch", 2, 13, 0, "method number / number", "region a b c catch", "region a d e finally", "a:" + mark(1) + "leave e",
            "b: drop" + mark(2) + "leave c", "c: leave e", "d:" + mark(3) + "done", "e: get 0 return");
        gives("within the part", 2, 1452, 0, "method number / number", "region a b c finally", "a:" + mark(1) + "leave f", "nop",
            "f:" + mark(4) + "const 1 if g nop g:" + mark(5) + "leave c", "b:" + mark(2) + "done", "c: get 0 return");
        gives("out of a catch's handler, through the finally around it", 2, 123, 0, "method number / number", "region a b c catch", "region a d e finally",
            "a:" + mark(1) + "const 7 throw", "b: drop" + mark(2) + "leave e", "c: leave e", "d:" + mark(3) + "done", "e: get 0 return");
        gives("in a finally's handler", 2, 1234, 0, "method number / number", "region a b c finally", "a:" + mark(1) + "leave c",
            "b:" + mark(2) + "leave g", "nop", "g:" + mark(3) + "done", "c:" + mark(4) + "get 0 return");
        gives("to targets that differ", 2, 14, 1, "method number number / number", "region a b c finally", "a: arg 0 if f leave c", "f: leave g", "b:" + mark(1) + "done",
            "c:" + mark(3) + "get 0 return", "g:" + mark(4) + "get 0 return");
        gives("to targets that differ", 2, 13, 0, "method number number / number", "region a b c finally", "a: arg 0 if f leave c", "f: leave g", "b:" + mark(1) + "done",
            "c:" + mark(3) + "get 0 return", "g:" + mark(4) + "get 0 return");
        gives("back, before the region", 2, 11, 2, "method number number / number", "region a b c finally", "s: arg 0 if a", "get 0 return", "a: arg 0 const 1 sub put 0 leave s",
            "b:" + mark(1) + "done", "c: get 0 return");
        TypedEngine x = new Asm("method none", "region a b c finally", "a: const 1 const 2 leave c", "b: done", "c: return").engine();
        x.start(0, 0, 0);
        x.step(3);
        Check.due("the stack is empty", x.look(3), 0);
        Check.due("at the middle", x.look(1), 6);
        x.step(1);
        Check.due("at the target", x.look(1), 7);
        TypedEngine y = new Asm("method none", "const 1 const 2 leave c", "c: return").engine();
        y.start(0, 0, 0);
        y.step(3);
        Check.due("the stack is empty", y.look(3), 0);
        Check.due("at the target", y.look(1), 6);
    }

    private static void dones() {
        gives("a throw through a finally to a catch", 2, 123, 0, "method number / number", "region a b c finally", "region a d e catch",
            "a:" + mark(1) + "const 7 throw", "b:" + mark(2) + "done", "c: leave e", "d: drop" + mark(3) + "leave e", "e: get 0 return");
        gives("what was thrown comes along", 2, 7, 0, "method number / number", "region a b c finally", "region a d e catch",
            "a: const 7 throw", "b: done", "c: leave e", "d: set 0 leave e", "e: get 0 return");
        gives("a throw through two to none", 3, 7, 0, "method number / number", "region a b c finally", "region a d e finally",
            "a: const 7 throw", "b: done", "c: leave e", "d: done", "e: get 0 return");
        gives("thrown anew in the handler", 2, 8, 0, "method number / number", "region a b c finally", "region a d e catch",
            "a: const 7 throw", "b: const 8 throw", "c: leave e", "d: set 0 leave e", "e: get 0 return");
        gives("a leave that a throw ends", 2, 8, 0, "method number / number", "region a b c finally", "region a d e catch",
            "a: leave e", "b: const 8 throw", "c: leave e", "d: set 0 leave e", "e: get 0 return");
        gives("a throw in the outer part is not for the inner finally", 2, 3, 0, "method number / number", "region a b c finally", "region a d e catch",
            "a: const 1 if f leave c", "f: leave g", "b: done", "c: nop g: const 7 throw", "d: drop const 3 set 0 leave e", "e: get 0 return");
        TypedEngine x = new Asm("method none", "region a b c finally", "a: const 1 const 2 const 3 throw", "b: nop done", "c: return").engine();
        x.start(0, 0, 0);
        x.step(4);
        Check.due("the stack is empty", x.look(3), 0);
        Check.due("at the middle", x.look(1), 7);
        Check.due("it goes on", x.state(), 1);
        x.step(1);
        Check.due("at the done", x.look(1), 8);
        Check.due("it goes on", x.state(), 1);
        x.step(1);
        Check.due("trapped", x.state(), 3);
        Check.due("by 3", x.result(), 3);
    }

    private static void nestedHandlers() {
        String inner = "region f g h catch";
        gives("a throw in the handler that is caught there", 3, 7, 0, "method number / number", inner, "region a b c finally",
            "a: const 7 throw", "b: nop f: const 8 throw", "g: set 0 leave h", "h: done", "c: get 0 return");
        gives("a leave that is pending meanwhile", 2, 8, 0, "method number / number", inner, "region a b c finally",
            "a: leave c", "b: nop f: const 8 throw", "g: set 0 leave h", "h: done", "c: get 0 return");
        gives("two are pending", 2, 12345, 0, "method number / number", "region f g h finally", "region a b c finally",
            "a:" + mark(1) + "leave c", "b:" + mark(2) + "f:" + mark(3) + "leave h", "g:" + mark(4) + "done", "h: done", "c:" + mark(5) + "get 0 return");
        gives("two are pending, a throw and a leave", 3, 7, 0, "method number / number", "region f g h finally", "region a b c finally",
            "a: const 7 throw", "b: nop f: leave h", "g: done", "h: done", "c: get 0 return");
        gives("two are pending, two throws", 3, 8, 0, "method number / number", "region f g h finally", "region a b c finally",
            "a: const 7 throw", "b: nop f: const 8 throw", "g: done", "h: done", "c: get 0 return");
        gives("a throw out of the inner handler", 2, 9, 0, "method number / number", "region f g h finally", "region a b c finally", "region a d e catch",
            "a: const 7 throw", "b: nop f: const 8 throw", "g: const 9 throw", "h: done", "c: leave e", "d: set 0 leave e", "e: get 0 return");
        gives("a loop over a finally", 2, 111, 3, "method number number / number", "region a b c finally", "s: nop a: leave c", "b:" + mark(1) + "done",
            "c: arg 0 const 1 sub dup put 0 if s get 0 return");
        gives("a loop, a throw and then a leave", 2, 1212, 2, "method number number / number", "region a b c finally", "region a d e catch", "s: nop",
            "a: arg 0 if t leave e", "t: const 5 throw", "b:" + mark(1) + "done", "c: leave e", "d: drop" + mark(2) + "leave e",
            "e: arg 0 const 1 sub dup put 0 if s get 0 return");
        gives("in a catch's handler", 2, 1234, 0, "method number / number", "region f g h finally", "region a b c catch",
            "a: const 7 throw", "b: drop" + mark(1) + "f:" + mark(2) + "leave c", "g:" + mark(3) + "done", "h: leave c", "c:" + mark(4) + "get 0 return");
    }

    private static void pendingIsEachMethodsOwn() {
        gives("the same handler in two active ones", 2, 31, 0, "method number number / number", "region a b c finally",
            "a: arg 0 if t leave c", "t: const 5 throw", "b: arg 0 if u const 1 call 1 set 0 u: done", "c: get 0 const 1 add return",
            "method number number / number", "region a b c catch", "a: arg 0 call 0 drop leave c", "b: drop const 30 set 0 leave c", "c: get 0 return");
        gives("a handler that calls its own method", 2, 3, 2, "method number number / number", "region a b c finally",
            "a: leave c", "b: arg 0 if u done", "u: arg 0 const 1 sub call 0 set 0 done", "c: get 0 const 1 add return");
    }

    private static void entries() {
        TypedEngine x = new Asm("method none number", "region a b c finally", "region a d e catch", "s: nop", "a: arg 0 if t leave c", "t: arg 0 throw",
            "b: const 0 if b done", "c: leave e", "d: dup if f f: drop leave e", "e: arg 0 const 1 sub dup put 0 if s return",
            "method none", "region a b c finally", "a: const 2 call 0 leave c", "b: done", "c: const 3 call 0 return").engine();
        for (int m = -1; m <= 6; m++) {
            for (int r = -1; r <= 3; r++) {
                Check.due("no run: entered(" + m + ", " + r + ")", x.entered(m, r), 0);
            }
        }
        x.start(0, 4, 0);
        x.step(500);
        Check.due("state", x.state(), 2);
        Check.due("entered(0, 0)", x.entered(0, 0), 4);
        Check.due("entered(0, 1)", x.entered(0, 1), 4);
        Check.due("entered(0, 2)", x.entered(0, 2), 0);
        Check.due("entered(1, 0)", x.entered(1, 0), 0);
        int[] none = {-1, 2, 3, 6, 7, 18, Integer.MIN_VALUE, Integer.MAX_VALUE};
        for (int i : none) {
            Check.due("entered(" + i + ", 0)", x.entered(i, 0), 0);
            Check.due("entered(0, " + i + ")", x.entered(0, i), 0);
            Check.due("entered(1, " + i + ")", x.entered(1, i), 0);
        }
        x.start(1, 0, 0);
        Check.due("a new run: entered(0, 0)", x.entered(0, 0), 0);
        x.step(500);
        Check.due("entered(0, 0)", x.entered(0, 0), 5);
        Check.due("entered(0, 1)", x.entered(0, 1), 5);
        Check.due("entered(1, 0)", x.entered(1, 0), 1);
        x.load();
        Check.due("no run: entered(0, 0)", x.entered(0, 0), 0);
        Check.due("no run: entered(1, 0)", x.entered(1, 0), 0);
        goingToTheMiddleIsNoEntry();
    }

    private static void goingToTheMiddleIsNoEntry() {
        TypedEngine x = new Asm("method none number", "region a b c finally", "a: leave c", "b: arg 0 const 1 sub dup put 0 if b done", "c: return").engine();
        x.start(0, 5, 0);
        x.step(500);
        Check.due("state", x.state(), 2);
        Check.due("entered(0, 0)", x.entered(0, 0), 1);
        TypedEngine y = new Asm("method none number", "region a b c catch", "a: const 1 throw", "b: arg 0 const 1 sub dup put 0 if b leave c", "c: const 1 throw").engine();
        y.start(0, 5, 0);
        y.step(500);
        Check.due("trapped", y.state(), 3);
        Check.due("entered(0, 0)", y.entered(0, 0), 1);
    }
}
