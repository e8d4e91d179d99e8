/** Promises 1 to 3: a new object, draft and clear. */
public final class DraftTest {
    private static final long IMAGE = 77L | 1L << 16 | 1L << 56;

    public static void main(String[] args) {
        aNewObjectHasNothing();
        draftPutsTheLowestByteFirst();
        draftRefusesWrongCounts();
        draftHoldsFourHundred();
        clearEmptiesTheDraftAlone();
        Check.finish("DraftTest");
    }

    private static void aNewObjectHasNothing() {
        TypedEngine x = new TypedEngine();
        Check.due("new: load()", x.load(), -1);
        Check.due("new: verified(0)", x.verified(0), false);
        Check.due("new: depth(0, 0)", x.depth(0, 0), -2);
        Check.due("new: type(0, 0, 0)", x.type(0, 0, 0), 0);
        Check.due("new: start(0, 0, 0)", x.start(0, 0, 0), false);
        Check.due("new: step(0)", x.step(0), -1);
        Check.due("new: step(1)", x.step(1), -1);
        Check.due("new: state()", x.state(), 0);
        Check.due("new: result()", x.result(), 0);
        for (int what = -1; what <= 5; what++) {
            Check.due("new: look(" + what + ")", x.look(what), -1);
        }
        Check.due("new: peek(0)", x.peek(0), 0);
        Check.due("new: entered(0, 0)", x.entered(0, 0), 0);
        TypedEngine y = new TypedEngine();
        y.draft(77, 1);
        Check.due("objects share nothing: load()", x.load(), -1);
        draftSmallest(x);
        Check.due("objects share nothing: load() of a whole image", x.load(), 1);
    }

    /** 77, no classes, one method: no result, arguments, locals or regions, its code a return. */
    private static void draftSmallest(TypedEngine x) {
        x.draft(IMAGE, 8);
        x.draft(34, 1);
    }

    private static void draftPutsTheLowestByteFirst() {
        TypedEngine x = new TypedEngine();
        Check.due("draft of 8", x.draft(IMAGE, 8), true);
        Check.due("draft of 1", x.draft(34, 1), true);
        Check.due("load()", x.load(), 1);
        Check.due("verified(0)", x.verified(0), true);
        TypedEngine y = new TypedEngine();
        int[] bytes = {77, 0, 1, 0, 0, 0, 0, 1, 34};
        for (int b : bytes) {
            Check.due("draft of 1 byte, higher ones set", y.draft(b | 0xABCDEFL << 8, 1), true);
        }
        Check.due("higher bytes are left out", y.load(), 1);
        TypedEngine z = new TypedEngine();
        Check.due("draft(.., 3)", z.draft(77L | 1L << 16 | 99L << 24, 3), true);
        Check.due("draft(.., 5)", z.draft(1L << 32, 5), true);
        Check.due("a part is no image", z.load(), -1);
        Check.due("draft(34, 1)", z.draft(-222L, 1), true);
        Check.due("bytes of a negative number", z.load(), 1);
        Check.due("verified(0)", z.verified(0), true);
        for (int n = 1; n <= 8; n++) {
            oneConstOf(n);
        }
    }

    /** The n bytes of a draft all stand in the code, each a number of a const. */
    private static void oneConstOf(int n) {
        TypedEngine x = new TypedEngine();
        x.draft(77L | 1L << 16 | 1L << 24, 7);
        x.draft(2 * n + 1, 1);
        int[] numbers = {-1, 127, -128, 5, 77, 0, 34, 100};
        long low = 0;
        for (int i = 0; i < n; i++) {
            int b = i % 2 == 0 ? 1 : numbers[i] & 255;
            low |= (long) b << (8 * i);
        }
        x.draft(low, n);
        for (int i = n; i < 2 * n; i++) {
            x.draft(i % 2 == 0 ? 1 : numbers[i % 8], 1);
        }
        x.draft(34, 1);
        Check.due("load() of consts, n = " + n, x.load(), 1);
        Check.due("start", x.start(0, 0, 0), true);
        x.step(n);
        for (int i = 0; i < n; i++) {
            Check.due("peek(" + i + "), n = " + n, x.peek(i), numbers[(2 * i + 1) % 8]);
        }
    }

    private static void draftRefusesWrongCounts() {
        TypedEngine x = new TypedEngine();
        int[] wrong = {0, 9, -1, 10, 16, 64, Integer.MIN_VALUE, Integer.MAX_VALUE};
        for (int n : wrong) {
            Check.due("draft(5, " + n + ")", x.draft(5, n), false);
        }
        draftSmallest(x);
        for (int n : wrong) {
            Check.due("draft(5, " + n + ")", x.draft(5, n), false);
        }
        Check.due("refused drafts change nothing", x.load(), 1);
    }

    private static void draftHoldsFourHundred() {
        TypedEngine x = new TypedEngine();
        for (int i = 0; i < 49; i++) {
            Check.due("draft number " + i, x.draft(0, 8), true);
        }
        Check.due("up to 397", x.draft(0, 5), true);
        Check.due("would be 405", x.draft(0, 8), false);
        Check.due("would be 401", x.draft(0, 4), false);
        Check.due("400", x.draft(0, 3), true);
        Check.due("would be 401", x.draft(0, 1), false);
        Check.due("400 zeros are no image", x.load(), -1);
        x.clear();
        Check.due("draft after clear", x.draft(IMAGE, 8), true);
        x.draft(34, 1);
        Check.due("load() after clear", x.load(), 1);
        anImageOfFourHundred();
    }

    private static void anImageOfFourHundred() {
        TypedEngine x = new TypedEngine();
        int[] bytes = new int[400];
        bytes[0] = 77;
        bytes[2] = 4;
        int at = 3;
        int[] sizes = {100, 100, 100, 77};
        for (int size : sizes) {
            bytes[at + 4] = size;
            at += 5 + size;
            bytes[at - 1] = 34;
        }
        Check.due("the bytes of it", at, 400);
        Check.due("an image of 400 bytes", Asm.load(x, bytes), 4);
        Check.due("its last method", x.verified(3), true);
        Check.due("its last byte", x.depth(3, 76), 0);
        Check.due("start(3, 0, 0)", x.start(3, 0, 0), true);
        Check.due("step(500)", x.step(500), 77);
        Check.due("draft(0, 1)", x.draft(0, 1), false);
        Check.due("load() again", x.load(), 4);
        int[] places = {2, at - 78};
        for (int place : places) {
            int[] wanting = bytes.clone();
            wanting[place]++;
            Check.due("400 bytes of an image that has more", Asm.load(x, wanting), -1);
            Check.due("the image stays", x.verified(3), true);
        }
    }

    private static void clearEmptiesTheDraftAlone() {
        TypedEngine x = new TypedEngine();
        x.clear();
        draftSmallest(x);
        Check.due("load()", x.load(), 1);
        Check.due("start(0, 0, 0)", x.start(0, 0, 0), true);
        x.clear();
        Check.due("the image stays", x.verified(0), true);
        Check.due("the run stays", x.state(), 1);
        Check.due("the draft is empty", x.load(), -1);
        Check.due("the image stays still", x.verified(0), true);
        Check.due("the run stays still", x.step(5), 1);
    }
}
