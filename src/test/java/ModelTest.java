import java.util.Arrays;
import java.util.Random;

/**
 * TypedEngine and the model get the same calls, on images made at random, and answer alike. As an object is
 * used for at most 512 calls, another one that gets the same past takes its place in time.
 */
public final class ModelTest {
    private static final int IMAGES = 12000;
    private static final int CALLS = 512;
    private static final int STEPS = 500;
    // More than verify asks of a place, and than a start or step with compare behind it.
    private static final int QUESTIONS = 60;

    private static final Random RANDOM = new Random(7);
    private static TypedEngine x;
    private static Model y;
    private static int[] image;
    // The calls that x was given, the start that was accepted last, and the steps that were done since.
    private static int calls;
    private static int[] started;
    private static int steps;
    private static final int[] SEEN = new int[8];

    public static void main(String[] args) {
        Programs programs = new Programs(args.length > 0 ? Long.parseLong(args[0]) : 1);
        for (int i = 0; i < IMAGES; i++) {
            image = programs.next();
            loadBoth();
            for (int m = -1; m <= 6; m++) {
                verify(m);
            }
            for (int m = -1; m <= 6; m++) {
                run(m);
            }
        }
        System.out.println("loaded, verified, started, over, trapped by 1..5 or else, entered, calls: "
            + Arrays.toString(SEEN));
        for (int count : SEEN) {
            Check.due("the images are worth trying", count > 300, true);
        }
        Check.finish("ModelTest");
    }

    private static void due(String call, long got, long want) {
        calls++;
        Check.due("an object's calls", calls <= CALLS, true);
        if (got != want) {
            Check.due(call + " with " + Arrays.toString(image), got, want);
        }
    }

    private static void due(String call, boolean got, boolean want) {
        due(call, got ? 1 : 0, want ? 1 : 0);
    }

    private static void loadBoth() {
        x = new TypedEngine();
        y = new Model();
        calls = 0;
        started = null;
        int at = 0;
        while (at < image.length) {
            int n = Math.min(1 + RANDOM.nextInt(8), image.length - at);
            long v = RANDOM.nextLong();
            for (int i = 0; i < n; i++) {
                v = v & ~(255L << (8 * i)) | (long) image[at + i] << (8 * i);
            }
            due("draft", x.draft(v, n), y.draft(v, n));
            at += n;
        }
        int loaded = y.load();
        due("load()", x.load(), loaded);
        SEEN[0] += loaded > 0 ? 1 : 0;
    }

    /** Another object with the same past, if this one can't be asked that much any more. */
    private static void renew() {
        if (calls + QUESTIONS <= CALLS) {
            return;
        }
        x = new TypedEngine();
        Asm.load(x, image);
        calls = 2 + (image.length + 7) / 8;
        if (started != null) {
            x.start(started[0], started[1], started[2]);
            calls++;
            for (int rest = steps; rest > 0; rest -= STEPS) {
                x.step(Math.min(rest, STEPS));
                calls++;
            }
        }
    }

    private static void verify(int m) {
        renew();
        due("verified", x.verified(m), y.verified(m));
        if (y.verified(m)) {
            SEEN[1]++;
        }
        for (int p = -1; p <= 101; p++) {
            renew();
            int depth = y.depth(m, p);
            due("depth", x.depth(m, p), depth);
            for (int i = -1; i <= depth; i++) {
                due("type", x.type(m, p, i), y.type(m, p, i));
            }
        }
    }

    private static void run(int m) {
        int a = RANDOM.nextInt(4) - 1;
        int b = RANDOM.nextBoolean() ? RANDOM.nextInt() : RANDOM.nextInt(5);
        boolean begun = y.start(m, a, b);
        renew();
        due("start", x.start(m, a, b), begun);
        compare();
        if (!begun) {
            return;
        }
        started = new int[] {m, a, b};
        steps = 0;
        SEEN[2]++;
        for (int rounds = 0; y.state() == 1 && rounds < 120; rounds++) {
            int n = rounds < 100 ? 1 : RANDOM.nextInt(60);
            renew();
            int count = y.step(n);
            due("step", x.step(n), count);
            steps += count;
            compare();
        }
        SEEN[3] += y.state() == 2 ? 1 : 0;
        SEEN[4] += y.state() == 3 && y.result() >= 1 && y.result() <= 5 ? 1 : 0;
        SEEN[5] += y.state() == 3 && (y.result() < 1 || y.result() > 5) ? 1 : 0;
    }

    private static void compare() {
        due("state()", x.state(), y.state());
        due("result()", x.result(), y.result());
        for (int what = -1; what <= 5; what++) {
            due("look", x.look(what), y.look(what));
        }
        for (int i = -1; i <= 8; i++) {
            due("peek", x.peek(i), y.peek(i));
        }
        for (int m = -1; m <= 6; m++) {
            for (int r = -1; r <= 3; r++) {
                due("entered", x.entered(m, r), y.entered(m, r));
                SEEN[6] += y.entered(m, r) > 0 ? 1 : 0;
            }
        }
        SEEN[7] += y.look(2) > 1 ? 1 : 0;
    }
}
