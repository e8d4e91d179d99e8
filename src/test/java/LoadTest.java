/** Promise 4: load. */
public final class LoadTest {
    public static void main(String[] args) {
        countsOfTheImage();
        typesOfTheImage();
        marksRegionsAndCode();
        everyCutIsRefused();
        loadTakesThePlaceOfTheFormer();
        nothingStaysOfFormerImages();
        refusedLoadChangesNothing();
        Check.finish("LoadTest");
    }

    private static void due(String what, int want, int... bytes) {
        Check.due(what, Asm.load(new TypedEngine(), bytes), want);
    }

    private static void countsOfTheImage() {
        due("smallest", 1, 77, 0, 1, 0, 0, 0, 0, 1, 34);
        due("no methods", -1, 77, 0, 0);
        due("no classes, no more", -1, 77, 0);
        due("two methods", 2, 77, 0, 2, 0, 0, 0, 0, 1, 34, 0, 0, 0, 0, 1, 34);
        for (int methods = 0; methods <= 8; methods++) {
            int[] bytes = new int[3 + 6 * methods];
            bytes[0] = 77;
            bytes[2] = methods;
            for (int m = 0; m < methods; m++) {
                bytes[3 + 6 * m + 4] = 1;
            }
            due(methods + " methods", methods >= 1 && methods <= 6 ? methods : -1, bytes);
        }
        for (int classes = 0; classes <= 6; classes++) {
            int[] bytes = new int[9 + classes];
            bytes[0] = 77;
            bytes[1] = classes;
            bytes[2 + classes] = 1;
            bytes[7 + classes] = 1;
            due(classes + " classes", classes <= 4 ? 1 : -1, bytes);
        }
        countOf("fields", 2, 4, 77, 1, 0, 1, 0, 0, 0, 0, 1, 34);
        countOf("arguments", 4, 3, 77, 0, 1, 0, 0, 0, 0, 1, 34);
        countOf("locals", 5, 4, 77, 0, 1, 0, 0, 0, 0, 1, 34);
    }

    /** From none to 6 types behind the count at that place, as many as the count says. */
    private static void countOf(String what, int at, int most, int... bytes) {
        for (int count = 0; count <= 6; count++) {
            int[] longer = new int[bytes.length + count];
            System.arraycopy(bytes, 0, longer, 0, at);
            longer[at] = count;
            for (int i = 0; i < count; i++) {
                longer[at + 1 + i] = 1 + i % 2;
            }
            System.arraycopy(bytes, at + 1, longer, at + 1 + count, bytes.length - at - 1);
            due(count + " " + what, count <= most ? 1 : -1, longer);
        }
        int[] huge = bytes.clone();
        huge[at] = 255;
        due("255 " + what, -1, huge);
    }

    private static boolean isType(int t, int classes) {
        return t >= 1 && t <= 5 || t >= 8 && t < 8 + classes;
    }

    private static void typesOfTheImage() {
        for (int t = 0; t <= 255; t++) {
            for (int classes = 1; classes <= 4; classes++) {
                boolean there = isType(t, classes);
                boolean kept = there && t != 3;
                due("field of type " + t, kept ? 1 : -1, withClasses(classes, 1, t, -1, -1, -1));
                due("later class's field of type " + t, kept ? 1 : -1, withClasses(classes, classes, t, -1, -1, -1));
                due("result of type " + t, kept || t == 0 ? 1 : -1, withClasses(classes, 0, -1, t, -1, -1));
                due("argument of type " + t, there ? 1 : -1, withClasses(classes, 0, -1, -1, t, -1));
                due("local of type " + t, kept ? 1 : -1, withClasses(classes, 0, -1, -1, -1, t));
            }
            due("result without classes, type " + t, isType(t, 0) && t != 3 || t == 0 ? 1 : -1,
                77, 0, 1, t, 0, 0, 0, 1, 34);
        }
    }

    /** An image with a field in class number fieldOf (from 1) or with a type elsewhere; -1 for none. */
    private static int[] withClasses(int classes, int fieldOf, int field, int result, int argument, int local) {
        StringBuilder text = new StringBuilder("77 " + classes);
        for (int c = 1; c <= classes; c++) {
            text.append(c == fieldOf ? " 1 " + field : " 0");
        }
        text.append(" 1 ").append(result < 0 ? 0 : result);
        text.append(argument < 0 ? " 0" : " 1 " + argument);
        text.append(local < 0 ? " 0" : " 1 " + local);
        String[] words = text.append(" 0 1 34").toString().split(" ");
        int[] bytes = new int[words.length];
        for (int i = 0; i < words.length; i++) {
            bytes[i] = Integer.parseInt(words[i]);
        }
        return bytes;
    }

    private static void marksRegionsAndCode() {
        for (int mark = 0; mark <= 255; mark++) {
            due("mark " + mark, mark == 77 ? 1 : -1, mark, 0, 1, 0, 0, 0, 0, 1, 34);
            due("kind " + mark, mark <= 1 ? 1 : -1, 77, 0, 1, 0, 0, 0, 1, 0, 0, 0, mark, 1, 34);
            due("any byte as code: " + mark, 1, 77, 0, 1, 0, 0, 0, 0, 1, mark);
            due("any byte as from: " + mark, 1, 77, 0, 1, 0, 0, 0, 1, mark, 0, 0, 1, 1, 34);
            due("any byte as middle: " + mark, 1, 77, 0, 1, 0, 0, 0, 1, 0, mark, 0, 1, 1, 34);
            due("any byte as end: " + mark, 1, 77, 0, 1, 0, 0, 0, 1, 0, 0, mark, 1, 1, 34);
        }
        for (int regions = 0; regions <= 5; regions++) {
            int[] bytes = new int[9 + 4 * regions];
            bytes[0] = 77;
            bytes[2] = 1;
            bytes[6] = regions;
            bytes[7 + 4 * regions] = 1;
            due(regions + " regions", regions <= 3 ? 1 : -1, bytes);
        }
        for (int size = 0; size <= 255; size++) {
            int[] bytes = new int[8 + size];
            bytes[0] = 77;
            bytes[2] = 1;
            bytes[7] = size;
            due("code of " + size, size >= 1 && size <= 100 ? 1 : -1, bytes);
        }
    }

    private static Asm full() {
        return new Asm("class number array", "class", "class object1 pair box object3", "class object0",
            "method number number place object2 / pair array", "region 0 1 2 catch", "region 3 4 5 finally",
            "const 1", "return",
            "method none", "return");
    }

    private static void everyCutIsRefused() {
        int[] bytes = full().bytes();
        due("the whole image", 2, bytes);
        for (int size = 0; size < bytes.length; size++) {
            due("the first " + size + " bytes", -1, java.util.Arrays.copyOf(bytes, size));
        }
        for (int more = 1; more <= 3; more++) {
            due(more + " bytes behind", -1, java.util.Arrays.copyOf(bytes, bytes.length + more));
        }
    }

    private static void loadTakesThePlaceOfTheFormer() {
        TypedEngine x = new Asm("method number / number", "const 1", "return", "method none", "return").engine();
        Check.due("start", x.start(0, 0, 0), true);
        Check.due("the draft stays: load()", x.load(), 2);
        Check.due("there is no run then", x.state(), 0);
        Check.due("step(0)", x.step(0), -1);
        Check.due("look(4)", x.look(4), -1);
        Check.due("look(0)", x.look(0), -1);
        Check.due("start", x.start(0, 0, 0), true);
        Check.due("step", x.step(9), 2);
        Check.due("result", x.result(), 1);
        Asm.load(x, new Asm("method none", "nop", "return").bytes());
        Check.due("the result is gone", x.result(), 0);
        Check.due("one method", x.verified(1), false);
        Check.due("depth(0, 1)", x.depth(0, 1), 0);
        Check.due("depth(0, 2)", x.depth(0, 2), -1);
        Check.due("depth(1, 0)", x.depth(1, 0), -2);
        Check.due("start(1)", x.start(1, 0, 0), false);
        Asm.load(x, new Asm("method none", "drop", "method none", "nop", "return", "method none", "return").bytes());
        Check.due("verified(0)", x.verified(0), false);
        Check.due("verified(1)", x.verified(1), true);
        Check.due("verified(2)", x.verified(2), true);
        Asm.load(x, new Asm("method none", "return").bytes());
        Check.due("verified(0)", x.verified(0), true);
        Check.due("verified(1)", x.verified(1), false);
        Check.due("shorter code: depth(0, 1)", x.depth(0, 1), -1);
    }

    /** A small image behind large ones has none of what was theirs. */
    private static void nothingStaysOfFormerImages() {
        int[] large = new Asm("class number number number number", "class number number number number",
            "class number number number number", "class number number number number",
            "method none number number number / number number number number", "region a b c finally", "region e f g finally",
            "a: leave c", "b: done", "c: call 1", "leave e2", "nop", "e: leave g", "f: done", "g: e2: return",
            "method none", "drop", "return",
            "method number", "const 1", "return").bytes();
        String[] small = {"get 1", "arg 1", "spot 1", "const 1 set 1", "const 1 put 1", "new 1", "null object1", "new 0 field 0.1",
            "new 0 at 0.2", "call 2", "done", "get 4", "arg 3"};
        for (String code : small) {
            TypedEngine x = new TypedEngine();
            for (int i = 0; i < 2; i++) {
                Check.due("the large one", Asm.load(x, large), 3);
                Check.due("its method 0", x.verified(0), true);
                Check.due("its start", x.start(0, 0, 0), false);
            }
            Check.due("the small one", Asm.load(x, new Asm("class number", "method none number / number", code, "return",
                "method none", "drop", "return").bytes()), 2);
            Check.due(code + " names what is not there any more", x.verified(0), false);
            Check.due("verified(2)", x.verified(2), false);
        }
        TypedEngine x = new TypedEngine();
        Asm.load(x, large);
        Asm.load(x, large);
        Asm.load(x, new Asm("method number number / number", "nop nop leave a", "a: arg 0", "return", "method none", "drop", "return").bytes());
        Check.due("the calls of the former are gone", x.start(0, 6, 0), true);
        x.step(500);
        Check.due("so are its regions: result", x.result(), 6);
        Check.due("so are its regions: entered(0, 0)", x.entered(0, 0), 0);
    }

    private static void refusedLoadChangesNothing() {
        TypedEngine x = new Asm("class number", "method number number / object0", "region 0 k m catch",
            "new 0", "set 0", "arg 0", "throw", "k: drop", "get 0", "drop", "leave m", "m: arg 0", "return").engine();
        x.start(0, 42, 0);
        x.step(5);
        int[][] wrong = {{}, {78}, {77, 0, 1, 3}, {77, 1, 1, 3}, {77, 0, 2, 0, 0, 0, 0, 1, 34},
            {77, 4, 1, 1, 1, 1, 1, 1, 1, 1, 6, 0, 0, 0, 0, 0, 0, 0, 0, 0, 0, 0, 1, 7}, {77, 0, 0}};
        for (int[] bytes : wrong) {
            Check.due("load()", Asm.load(x, bytes), -1);
            Check.due("verified(0)", x.verified(0), true);
            Check.due("verified(1)", x.verified(1), false);
            Check.due("depth(0, 2)", x.depth(0, 2), 1);
            Check.due("type(0, 2, 0)", x.type(0, 2, 0), 8);
            Check.due("state()", x.state(), 1);
            Check.due("look(1)", x.look(1), 8);
            Check.due("look(4)", x.look(4), 1);
            Check.due("entered(0, 0)", x.entered(0, 0), 1);
        }
        Check.due("the run goes on", x.step(500), 5);
        Check.due("result()", x.result(), 42);
        Asm.load(x, 1, 2, 3);
        Check.due("result() after a refused load", x.result(), 42);
        Check.due("state() after a refused load", x.state(), 2);
        Check.due("start() after a refused load", x.start(0, 7, 0), true);
        x.step(500);
        Check.due("result()", x.result(), 7);
    }
}
