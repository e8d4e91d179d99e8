/** "A call that is refused changes nothing.", for every call of the face that can be refused. */
public final class RefusedTest {
    private static final int MIN = Integer.MIN_VALUE;
    private static final int MAX = Integer.MAX_VALUE;

    /** An image whose run calls, makes things, catches, and has a throw and a leave pending. */
    static final int[] IMAGE = new Asm("class number array",
        "method number number / object0 number", "region a b c finally",
        "new 0 set 0", "a: arg 0 call 1 set 1 const 3 leave c",
        "b: get 0 const 9 store 0.0 get 0 const 2 array store 0.1 done", "c: get 1 get 0 field 0.0 add return",
        "method number number", "region a b c catch",
        "nop", "a: const 4 arg 0 throw", "b: put 0 leave c", "c: arg 0 const 1 add return",
        "method none", "drop return",
        "method none pair", "return",
        "method none", "call 2 return",
        "method number number", "region a b c finally", "a: arg 0 throw", "b: const 6 drop done", "c: const 1 return").bytes();
    private static final int[] JUNK = {77, 0, 1, 3, 1};

    public static void main(String[] args) {
        theRunIsWorthAsking();
        Check.sentence("A call that is refused changes nothing.");
        onANewObject();
        onAPartOfAnImage();
        whereNoRunIs();
        atEveryStepOfARun();
        onAFullDraft();
        Check.finish("RefusedTest");
    }

    private static void theRunIsWorthAsking() {
        TypedEngine x = new TypedEngine();
        Check.due("load", Asm.load(x, IMAGE), 6);
        Check.due("start", x.start(0, 7, 0), true);
        Check.due("steps", x.step(500), 30);
        Check.due("result", x.result(), 17);
        Check.due("made", x.look(4), 2);
        Check.due("entered(0, 0)", x.entered(0, 0), 1);
        Check.due("entered(1, 0)", x.entered(1, 0), 1);
    }

    private static void onANewObject() {
        Unchanged.Past past = x -> { };
        refusedDrafts("a new object", past);
        Unchanged.due("a new object: load()", past, x -> x.load() == -1);
        refusedStarts("a new object", past, -1, 0, 1, 5, 6, MIN, MAX);
        refusedSteps("a new object", past, -1, 0, 1, 500, 501, MIN, MAX);
        asking("a new object", past);
    }

    private static void onAPartOfAnImage() {
        int[] cuts = {1, 2, IMAGE.length / 2, IMAGE.length - 1};
        for (int cut : cuts) {
            Unchanged.Past past = x -> Asm.draft(x, java.util.Arrays.copyOf(IMAGE, cut));
            refusedDrafts("a part of an image", past);
            Unchanged.due("a part of an image: load()", past, x -> x.load() == -1);
            refusedStarts("a part of an image", past, 0);
            refusedSteps("a part of an image", past, 0, 500);
        }
    }

    private static void whereNoRunIs() {
        Unchanged.Past past = x -> Asm.load(x, IMAGE);
        refusedDrafts("no run", past);
        refusedStarts("no run", past, -1, 2, 3, 4, 6, 7, MIN, MAX);
        refusedSteps("no run", past, -1, 0, 1, 500, 501, MIN, MAX);
        asking("no run", past);
        Unchanged.Past junk = x -> {
            Asm.load(x, IMAGE);
            Asm.draft(x, JUNK);
        };
        Unchanged.due("no run: load()", junk, x -> x.load() == -1);
        Unchanged.due("no run: load(), load()", junk, x -> x.load() == -1 && x.load() == -1);
    }

    private static void atEveryStepOfARun() {
        for (int steps = 0; steps <= 31; steps++) {
            int count = steps;
            atOneStepOfARun("after " + count + " steps", x -> {
                Asm.load(x, IMAGE);
                x.start(0, 7, 0);
                x.step(count);
                Asm.draft(x, JUNK);
            });
        }
        for (int steps = 0; steps <= 5; steps++) {
            int count = steps;
            atOneStepOfARun("one that traps, after " + count + " steps", x -> {
                Asm.load(x, IMAGE);
                x.start(5, -3, 0);
                x.step(count);
                Asm.draft(x, JUNK);
            });
        }
    }

    private static void atOneStepOfARun(String what, Unchanged.Past past) {
        refusedDrafts(what, past);
        Unchanged.due(what + ": load()", past, x -> x.load() == -1);
        refusedStarts(what, past, -1, 2, 3, 4, 6);
        refusedSteps(what, past, -1, 501, MIN, MAX);
        asking(what, past);
    }

    private static void onAFullDraft() {
        for (int size = 392; size <= 400; size++) {
            int[] bytes = java.util.Arrays.copyOf(new int[] {77, 0, 1, 0, 0, 0, 0, 100}, size);
            Unchanged.Past past = x -> {
                Asm.load(x, IMAGE);
                x.start(0, 7, 0);
                Asm.draft(x, bytes);
            };
            for (int n = 1; n <= 8; n++) {
                int count = n;
                if (size + n > 400) {
                    Unchanged.due(size + " bytes: draft(-1, " + n + ")", past, x -> !x.draft(-1, count));
                }
            }
            Unchanged.due(size + " bytes: load()", past, x -> x.load() == -1);
        }
    }

    private static void refusedDrafts(String what, Unchanged.Past past) {
        for (int n : new int[] {0, 9, -1, 16, MIN, MAX}) {
            Unchanged.due(what + ": draft(77, " + n + ")", past, x -> !x.draft(77, n));
        }
    }

    private static void refusedStarts(String what, Unchanged.Past past, int... methods) {
        for (int m : methods) {
            Unchanged.due(what + ": start(" + m + ", 9, 9)", past, x -> !x.start(m, 9, 9));
        }
    }

    private static void refusedSteps(String what, Unchanged.Past past, int... counts) {
        for (int n : counts) {
            Unchanged.due(what + ": step(" + n + ")", past, x -> x.step(n) == -1);
        }
    }

    /** Questions, also after what is not there, change nothing either. */
    private static void asking(String what, Unchanged.Past past) {
        Unchanged.due(what + ": questions", past, x -> {
            for (int i = -1; i <= 8; i++) {
                x.verified(i);
                x.depth(0, i);
                x.type(0, 2, i);
                x.look(i);
                x.peek(i);
                x.entered(i, 0);
                x.entered(0, i);
            }
            return x.state() >= 0 && x.result() <= MAX && x.step(0) <= 0;
        });
    }
}
