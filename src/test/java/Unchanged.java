import java.util.ArrayList;
import java.util.List;

/**
 * "A call that is refused changes nothing.": of two engines with the same past one is given the
 * call, and both are then asked the same. As an object is used for at most 512 calls, each row
 * of questions has two engines of its own.
 */
final class Unchanged {
    private static final int QUESTIONS = 11;

    /** The calls that an engine was given before. */
    interface Past {
        void of(TypedEngine x);
    }

    /** A call; answers whether it was refused, or found none of what it asks for. */
    interface Call {
        boolean isRefusedBy(TypedEngine x);
    }

    private Unchanged() {
    }

    static void due(String what, Past past, Call call) {
        for (int which = 0; which < QUESTIONS; which++) {
            TypedEngine tried = new TypedEngine();
            TypedEngine spared = new TypedEngine();
            past.of(tried);
            past.of(spared);
            Check.due(what + ": refused", call.isRefusedBy(tried), true);
            List<Integer> got = ask(which, tried);
            List<Integer> want = ask(which, spared);
            Check.due(what + ": as many answers to questions " + which, got.size(), want.size());
            for (int i = 0; i < Math.min(got.size(), want.size()); i++) {
                Check.due(what + ": answer " + i + " to questions " + which, got.get(i), want.get(i));
            }
        }
    }

    private static List<Integer> ask(int which, TypedEngine x) {
        List<Integer> answers = new ArrayList<>();
        switch (which) {
            case 0:
                askOfNow(x, answers);
                break;
            case 1:
                askOfTheRun(x, answers);
                break;
            case 2:
                askOfTheRoom(x, answers);
                break;
            case 3:
                x.draft(34, 1);
                askOfTheDraft(x, answers);
                break;
            case 4:
                askOfTheDraft(x, answers);
                break;
            default:
                askOfMethod(which - 5, x, answers);
                break;
        }
        return answers;
    }

    private static void askOfNow(TypedEngine x, List<Integer> answers) {
        answers.add(x.state());
        answers.add(x.result());
        for (int i = -1; i <= 8; i++) {
            answers.add(x.look(i));
            answers.add(x.peek(i));
            answers.add(x.verified(i) ? 1 : 0);
            for (int r = -1; r <= 3; r++) {
                answers.add(x.entered(i, r));
            }
        }
        for (int m = -1; m <= 6; m++) {
            answers.add(x.start(m, 5, 6) ? 1 : 0);
        }
    }

    private static void askOfTheRun(TypedEngine x, List<Integer> answers) {
        for (int i = 0; i < 32; i++) {
            answers.add(x.step(1));
            answers.add(x.state());
            answers.add(x.result());
            for (int what = 0; what <= 4; what++) {
                answers.add(x.look(what));
            }
            answers.add(x.peek(0));
            answers.add(x.peek(1));
        }
        for (int m = 0; m <= 5; m++) {
            for (int r = 0; r <= 2; r++) {
                answers.add(x.entered(m, r));
            }
        }
    }

    /** How many bytes more the draft takes. */
    private static void askOfTheRoom(TypedEngine x, List<Integer> answers) {
        int room = 0;
        while (room <= 400 && x.draft(0, 1)) {
            room++;
        }
        answers.add(room);
    }

    private static void askOfTheDraft(TypedEngine x, List<Integer> answers) {
        answers.add(x.load());
        askOfNow(x, answers);
        for (int p = 0; p < 60; p++) {
            answers.add(x.depth(0, p));
            answers.add(x.depth(5, p));
        }
    }

    private static void askOfMethod(int m, TypedEngine x, List<Integer> answers) {
        for (int p = -1; p <= 100; p++) {
            int depth = x.depth(m, p);
            answers.add(depth);
            for (int i = 0; i <= Math.min(depth, 3); i++) {
                answers.add(x.type(m, p, i));
            }
        }
    }
}
