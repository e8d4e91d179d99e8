import java.util.ArrayList;
import java.util.List;
import java.util.Random;

/**
 * TypedEngine and the model get the same calls in any order and with any arguments, up to the 512 that an
 * object is used for: drafts, loads and starts in the midst of a run, and questions where nothing can be told.
 */
public final class CallsTest {
    private static final int OBJECTS = 3000;
    private static final int CALLS = 512;
    private static final int[] EDGES = {Integer.MIN_VALUE, Integer.MIN_VALUE + 1, -256, -129, -128, -2, -1, 9, 15, 16,
        20, 40, 99, 100, 101, 255, 256, 400, 500, 501, Integer.MAX_VALUE - 1, Integer.MAX_VALUE};
    private static final String[] KINDS = {"a load in place of a run", "a load refused in a run",
        "a start in place of a run", "a start refused in a run", "a step refused in a run", "a draft refused",
        "a clear in a run", "a run over", "a run trapped", "an entry asked for"};

    private final Random random;
    private final Programs programs;
    private final TypedEngine x = new TypedEngine();
    private final Model y = new Model();
    private final List<String> told = new ArrayList<>();
    private final int[] seen;
    private int[] image;
    private int at;
    private boolean isWrong;

    private CallsTest(Random random, Programs programs, int[] seen) {
        this.random = random;
        this.programs = programs;
        this.seen = seen;
        image = programs.next();
    }

    public static void main(String[] args) {
        long seed = args.length > 0 ? Long.parseLong(args[0]) : 11;
        Random random = new Random(seed);
        Programs programs = new Programs(seed);
        int[] seen = new int[KINDS.length];
        for (int i = 0; i < OBJECTS; i++) {
            new CallsTest(random, programs, seen).use();
        }
        for (int i = 0; i < KINDS.length; i++) {
            Check.due(KINDS[i] + ", often enough to tell something, of " + seen[i], seen[i] > 100, true);
        }
        Check.finish("CallsTest");
    }

    private void use() {
        // One less, as a draft may be followed by a load at once.
        while (told.size() < CALLS - 1 && !isWrong) {
            if (at < image.length && random.nextInt(3) > 0) {
                draftNext();
            } else if (at == image.length && random.nextInt(20) == 0) {
                anotherImage();
            } else if (random.nextInt(3) == 0) {
                change();
            } else {
                ask();
            }
        }
    }

    /** The answers are as due; the calls up to the first that is not are told. */
    private void due(String call, long got, long want) {
        told.add(call + " " + got);
        Check.due(got == want ? call : String.join(", ", told), got, want);
        isWrong |= got != want;
    }

    private void due(String call, boolean got, boolean want) {
        due(call, got ? 1 : 0, want ? 1 : 0);
    }

    private void saw(int kind, boolean really) {
        seen[kind] += really ? 1 : 0;
    }

    private int any(int most) {
        int way = random.nextInt(20);
        if (way == 0) {
            return random.nextInt();
        }
        return way < 3 ? EDGES[random.nextInt(EDGES.length)] : random.nextInt(most + 1);
    }

    private void draftNext() {
        int n = Math.min(random.nextInt(4) == 0 ? 1 + random.nextInt(8) : 8, image.length - at);
        long v = random.nextLong();
        for (int i = 0; i < n; i++) {
            v = v & ~(255L << (8 * i)) | (long) image[at + i] << (8 * i);
        }
        boolean fits = y.draft(v, n);
        due("draft(" + v + ", " + n + ")", x.draft(v, n), fits);
        at = fits ? at + n : image.length;
        if (at == image.length) {
            load();
        }
    }

    private void anotherImage() {
        saw(6, y.state() == 1);
        told.add("clear()");
        x.clear();
        y.clear();
        image = programs.next();
        at = 0;
    }

    private void load() {
        boolean wasRun = y.state() > 0;
        int methods = y.load();
        due("load()", x.load(), methods);
        saw(methods > 0 ? 0 : 1, wasRun);
    }

    private void change() {
        switch (random.nextInt(8)) {
            case 0:
                draftAny();
                break;
            case 1:
                if (random.nextInt(5) == 0) {
                    load();
                }
                break;
            case 2:
            case 3:
                start();
                break;
            default:
                step();
                break;
        }
    }

    /** Mostly refused, as a byte that does not belong there spoils the image. */
    private void draftAny() {
        int n = random.nextInt(30) == 0 ? 1 : random.nextBoolean() ? 0 : any(8) * 9;
        long v = random.nextLong();
        boolean taken = y.draft(v, n);
        due("draft(" + v + ", " + n + ")", x.draft(v, n), taken);
        saw(5, !taken);
    }

    private void start() {
        boolean wasRun = y.state() > 0;
        int m = any(4);
        int a = any(6);
        int b = any(6);
        boolean begun = y.start(m, a, b);
        due("start(" + m + ", " + a + ", " + b + ")", x.start(m, a, b), begun);
        saw(begun ? 2 : 3, wasRun);
    }

    private void step() {
        boolean wentOn = y.state() == 1;
        int n = random.nextInt(3) == 0 ? any(501) : random.nextInt(6);
        int count = y.step(n);
        due("step(" + n + ")", x.step(n), count);
        saw(4, wentOn && count < 0);
        saw(7, wentOn && y.state() == 2);
        saw(8, wentOn && y.state() == 3);
    }

    private void ask() {
        int m = any(4);
        int p = any(60);
        int i = any(3);
        switch (random.nextInt(8)) {
            case 0:
                due("verified(" + m + ")", x.verified(m), y.verified(m));
                break;
            case 1:
                due("depth(" + m + ", " + p + ")", x.depth(m, p), y.depth(m, p));
                break;
            case 2:
                due("type(" + m + ", " + p + ", " + i + ")", x.type(m, p, i), y.type(m, p, i));
                break;
            case 3:
                due("state()", x.state(), y.state());
                break;
            case 4:
                due("result()", x.result(), y.result());
                break;
            case 5:
                int what = any(4);
                due("look(" + what + ")", x.look(what), y.look(what));
                break;
            case 6:
                due("peek(" + i + ")", x.peek(i), y.peek(i));
                break;
            default:
                int r = any(2);
                due("entered(" + m + ", " + r + ")", x.entered(m, r), y.entered(m, r));
                saw(9, y.entered(m, r) > 0);
                break;
        }
    }
}
