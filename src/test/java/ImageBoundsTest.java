import java.util.ArrayList;
import java.util.Arrays;
import java.util.List;

/** The document's sentences on an image and on types: the last that is allowed, and the first that isn't. */
public final class ImageBoundsTest {
    public static void main(String[] args) {
        theMark();
        classes();
        fields();
        methods();
        arguments();
        locals();
        regions();
        placesOfRegions();
        kinds();
        code();
        nothingBehind();
        noneForAResult();
        numbersOfTypes();
        placesAreArgumentsAlone();
        classesOfTypes();
        zeroAndNullAtFirst();
        zeroAndNullAgain();
        Check.finish("ImageBoundsTest");
    }

    private static void isImage(String what, int methods, int... bytes) {
        Check.due(what, Asm.load(new TypedEngine(), bytes), methods);
    }

    /** It is none, and that load, being refused, changes nothing of the image, the run and the draft. */
    private static void isNone(String what, int... bytes) {
        Check.due(what, Asm.load(new TypedEngine(), bytes), -1);
        Unchanged.due(what, x -> {
            Asm.load(x, RefusedTest.IMAGE);
            x.start(0, 7, 0);
            x.step(9);
            Asm.draft(x, bytes);
        }, x -> x.load() == -1);
    }

    private static int[] join(int[]... rows) {
        List<Integer> all = new ArrayList<>();
        for (int[] row : rows) {
            for (int number : row) {
                all.add(number);
            }
        }
        return all.stream().mapToInt(Integer::intValue).toArray();
    }

    private static int[] row(int... numbers) {
        return numbers;
    }

    private static int[] times(int count, int... numbers) {
        int[] all = new int[0];
        for (int i = 0; i < count; i++) {
            all = join(all, numbers);
        }
        return all;
    }

    private static final int[] NO_CLASSES = {77, 0};
    // No result, arguments, locals or regions; its code is a return.
    private static final int[] METHOD = {0, 0, 0, 0, 1, 34};

    private static void theMark() {
        Check.sentence("An IMAGE is a row of bytes 0 .. 255: 77;");
        isImage("77 in front", 1, join(row(77, 0, 1), METHOD));
        for (int mark : new int[] {0, 76, 78, 255}) {
            isNone(mark + " in front", join(row(mark, 0, 1), METHOD));
        }
        isNone("no byte at all");
        isNone("77 alone", 77);
    }

    private static void classes() {
        Check.sentence("the number of CLASSES, 0 to 4, and for each");
        for (int count = 0; count <= 4; count++) {
            isImage(count + " classes", 1, join(row(77, count), times(count, 0), row(1), METHOD));
        }
        for (int count : new int[] {5, 6, 100}) {
            isNone(count + " classes", join(row(77, count), times(count, 0), row(1), METHOD));
        }
        isNone("255 classes", join(row(77, 255), times(255, 0), row(1), METHOD));
        isNone("4 classes told, 3 there", join(row(77, 4), times(3, 0), row(1), METHOD));
        isNone("2 classes told, 3 there", join(row(77, 2), times(3, 0), row(1), METHOD));
    }

    private static void fields() {
        Check.sentence("the number of its FIELDS, 0 to 4, and their types");
        for (int at = 0; at <= 3; at++) {
            for (int count = 0; count <= 4; count++) {
                isImage(count + " fields in class " + at, 1,
                    join(row(77, 4), times(at, 0), row(count), times(count, 1), times(3 - at, 0), row(1), METHOD));
            }
            for (int count : new int[] {5, 6, 255}) {
                isNone(count + " fields in class " + at,
                    join(row(77, 4), times(at, 0), row(count), times(count, 1), times(3 - at, 0), row(1), METHOD));
            }
        }
        isImage("4 fields in each of 4 classes", 1, join(row(77, 4), times(4, 4, 1, 2, 4, 11), row(1), METHOD));
    }

    private static void methods() {
        Check.sentence("the number of METHODS, 1 to 6, and for each");
        for (int count = 1; count <= 6; count++) {
            isImage(count + " methods", count, join(NO_CLASSES, row(count), times(count, METHOD)));
        }
        for (int count : new int[] {0, 7, 8, 60}) {
            isNone(count + " methods", join(NO_CLASSES, row(count), times(count, METHOD)));
        }
        isNone("255 methods", join(NO_CLASSES, row(255), times(60, METHOD)));
        isNone("6 methods told, 5 there", join(NO_CLASSES, row(6), times(5, METHOD)));
        isNone("1 method told, 2 there", join(NO_CLASSES, row(1), times(2, METHOD)));
    }

    /** Six methods, the one at that place with these bytes. */
    private static int[] sixWith(int at, int... method) {
        return join(NO_CLASSES, row(6), times(at, METHOD), method, times(5 - at, METHOD));
    }

    private static void counted(String what, int most, int before, int after, int... each) {
        for (int at = 0; at <= 5; at++) {
            for (int count = 0; count <= most + 2; count++) {
                int[] method = join(times(before, 0), row(count), times(count, each), times(after, 0), row(1, 34));
                if (count <= most) {
                    isImage(count + " " + what + " in method " + at, 6, sixWith(at, method));
                } else {
                    isNone(count + " " + what + " in method " + at, sixWith(at, method));
                }
            }
        }
        isNone("255 " + what, join(NO_CLASSES, row(1), times(before, 0), row(255), times(60, each), times(after, 0), row(1, 34)));
    }

    private static void arguments() {
        Check.sentence("the number of its ARGUMENTS, 0 to 3, and their types");
        counted("arguments", 3, 1, 2, 1);
    }

    private static void locals() {
        Check.sentence("that of its LOCALS, 0 to 4, and their types");
        counted("locals", 4, 2, 1, 1);
    }

    private static void regions() {
        Check.sentence("that of its REGIONS, 0 to 3, and for each FROM, MIDDLE, END and a KIND");
        counted("regions", 3, 3, 0, 0, 0, 0, 0);
    }

    /** A region that is not well made is no wrong image: its method is not verified. */
    private static void placesOfRegions() {
        Check.sentence("and for each FROM, MIDDLE, END and a KIND, 0 CATCH or 1 FINALLY");
        int[][] some = {{0, 0, 0}, {255, 255, 255}, {0, 1, 255}, {3, 2, 1}, {1, 2, 4}};
        for (int[] three : some) {
            TypedEngine x = new TypedEngine();
            int[] bytes = join(NO_CLASSES, row(1, 0, 0, 0, 1), three, row(0, 3, 34, 34, 34));
            Check.due("FROM, MIDDLE, END " + Arrays.toString(three), Asm.load(x, bytes), 1);
            Check.due("FROM, MIDDLE, END " + Arrays.toString(three) + ": verified(0)", x.verified(0), false);
        }
    }

    private static void kinds() {
        Check.sentence("a KIND, 0 CATCH or 1 FINALLY");
        for (int at = 0; at <= 2; at++) {
            for (int kind : new int[] {0, 1, 2, 3, 255}) {
                int[] bytes = join(NO_CLASSES, row(1, 0, 0, 0, 3), times(at, 1, 2, 3, 0), row(1, 2, 3, kind), times(2 - at, 1, 2, 3, 1), row(1, 34));
                if (kind <= 1) {
                    isImage("kind " + kind + " of region " + at, 1, bytes);
                } else {
                    isNone("kind " + kind + " of region " + at, bytes);
                }
            }
        }
        for (int kind = 0; kind <= 1; kind++) {
            TypedEngine x = new Asm("method none", "region a b c " + kind, "a: leave c", "b: nop d: go d", "c: return").engine();
            Check.due("kind " + kind + ": depth of the middle", x.depth(0, 2), kind == 0 ? 1 : 0);
        }
    }

    private static void code() {
        Check.sentence("the number of bytes of its CODE, 1 to 100, and these");
        for (int size : new int[] {1, 2, 99, 100}) {
            TypedEngine x = new TypedEngine();
            int[] bytes = join(NO_CLASSES, row(1, 0, 0, 0, 0, size), times(size - 1, 0), row(34));
            Check.due("code of " + size, Asm.load(x, bytes), 1);
            Check.due("code of " + size + ": depth of the last", x.depth(0, size - 1), 0);
            Check.due("code of " + size + ": depth behind the last", x.depth(0, size), -1);
            Check.due("code of " + size + ": start", x.start(0, 0, 0), true);
            Check.due("code of " + size + ": steps", x.step(500), size);
        }
        for (int size : new int[] {0, 101, 102, 255}) {
            isNone("code of " + size, join(NO_CLASSES, row(1, 0, 0, 0, 0, size), times(size, 34)));
        }
        for (int at = 0; at <= 5; at++) {
            isNone("no code in method " + at, sixWith(at, 0, 0, 0, 0, 0));
            isNone("code of 101 in method " + at, sixWith(at, join(row(0, 0, 0, 0, 101), times(101, 34))));
            isImage("code of 100 in method " + at, 6, sixWith(at, join(row(0, 0, 0, 0, 100), times(100, 34))));
        }
        for (int b : new int[] {0, 37, 38, 77, 127, 128, 255}) {
            isImage("a byte of the code " + b, 1, join(NO_CLASSES, row(1, 0, 0, 0, 0, 1, b)));
        }
    }

    private static void nothingBehind() {
        Check.sentence("Nothing is behind it.");
        int[] whole = RefusedTest.IMAGE;
        isImage("the whole image", 6, whole);
        for (int b : new int[] {0, 34, 77, 255}) {
            isNone("a byte behind it: " + b, join(whole, row(b)));
        }
        isNone("two images", join(row(77, 0, 1), METHOD, row(77, 0, 1), METHOD));
        for (int size = 0; size < whole.length; size++) {
            Check.due("the first " + size + " bytes", Asm.load(new TypedEngine(), Arrays.copyOf(whole, size)), -1);
        }
        isNone("all but its last byte", Arrays.copyOf(whole, whole.length - 1));
    }

    private static void noneForAResult() {
        Check.sentence("the type of its RESULT, 0 for none");
        TypedEngine x = new Asm("method none", "return", "method number", "return", "method none", "call 0 return", "method number", "call 0 return").engine();
        Check.due("a return of none", x.verified(0), true);
        Check.due("a return that lacks its number", x.verified(1), false);
        Check.due("a call of none", x.verified(2), true);
        Check.due("a call of none puts nothing", x.verified(3), false);
        isNone("0 as the type of an argument", 77, 0, 1, 0, 1, 0, 0, 0, 1, 34);
        isNone("0 as the type of a local", 77, 0, 1, 0, 0, 1, 0, 0, 1, 34);
        isNone("0 as the type of a field", join(row(77, 1, 1, 0, 1), METHOD));
    }

    /** An image with four classes and the type as a field, a result, an argument and a local. */
    private static int[][] withType(int classes, int type) {
        int[] none = times(classes - 1, 0);
        return new int[][] {
            join(row(77, classes), none, row(1, type, 1), METHOD),
            join(row(77, classes, 0), none, row(1, type, 0, 0, 0, 1, 34)),
            join(row(77, classes, 0), none, row(1, 0, 1, type, 0, 0, 1, 34)),
            join(row(77, classes, 0), none, row(1, 0, 0, 1, type, 0, 1, 34))};
    }

    private static final String[] AS = {"a field", "a result", "an argument", "a local"};

    private static void numbersOfTypes() {
        Check.sentence("TYPES: 1 NUMBER, an int; 2 PAIR, two ints; 3 PLACE; 4 ARRAY, of numbers, or null; "
            + "5 BOX, a pair that lies in it, or null; 8 + c OBJECT, of class c, or null.");
        for (int i = 0; i < AS.length; i++) {
            for (int type : new int[] {1, 2, 4, 5, 8, 11}) {
                isImage("type " + type + " of " + AS[i], 1, withType(4, type)[i]);
            }
            for (int type : new int[] {6, 7, 12, 13, 16, 127, 128, 254, 255}) {
                isNone("type " + type + " of " + AS[i], withType(4, type)[i]);
            }
        }
    }

    private static void placesAreArgumentsAlone() {
        Check.sentence("Arguments may be of all these, fields, locals and results of all but 3;");
        int[][] images = withType(4, 3);
        isNone("a field that is a place", images[0]);
        isNone("a result that is a place", images[1]);
        isImage("an argument that is a place", 1, images[2]);
        isNone("a local that is a place", images[3]);
        isImage("three arguments that are places", 1, 77, 0, 1, 0, 3, 3, 3, 3, 0, 0, 1, 34);
    }

    private static void classesOfTypes() {
        Check.sentence("class c must be there.");
        for (int i = 0; i < AS.length; i++) {
            for (int classes = 1; classes <= 4; classes++) {
                isImage("the last of " + classes + " classes as " + AS[i], 1, withType(classes, 7 + classes)[i]);
                isNone("one behind " + classes + " classes as " + AS[i], withType(classes, 8 + classes)[i]);
            }
        }
        isNone("an object's type where no class is", 77, 0, 1, 8, 0, 0, 0, 1, 34);
        isImage("a field of a class that comes later", 1, join(row(77, 4, 1, 11, 0, 0, 0, 1), METHOD));
        isImage("a field of its own class", 1, join(row(77, 1, 1, 8, 1), METHOD));
    }

    private static void gives(String what, int want, String... lines) {
        TypedEngine x = new Asm(lines).engine();
        Check.due(what + ": start", x.start(0, 41, 42), true);
        x.step(500);
        Check.due(what + ": over or trapped", x.state() >= 2, true);
        Check.due(what, x.result(), want);
    }

    private static void zeroAndNullAtFirst() {
        Check.sentence("All numbers and pairs are 0 at first, the others null.");
        String[] classes = {"class number pair array box", "class object0 object1"};
        String[][] asked = {{"number", "nop"}, {"pair", "first"}, {"pair", "second"}};
        for (String[] one : asked) {
            for (int k = 0; k <= 3; k++) {
                gives("local " + k + ": " + one[0], 0, "method number / " + (one[0] + " ").repeat(4), "get " + k, one[1], "return");
                gives("field " + k + ": " + one[0], 0, "class " + (one[0] + " ").repeat(4), "method number", "new 0", "field 0." + k, one[1], "return");
            }
        }
        String[][] nulls = {{"array", "size"}, {"box", "open"}, {"object0", "field 0.0"}, {"object1", "field 1.0"}};
        for (String[] one : nulls) {
            for (int k = 0; k <= 3; k++) {
                gives("local " + k + ": " + one[0], 2, classes[0], classes[1], "method none / " + (one[0] + " ").repeat(4), "get " + k, one[1], "drop", "return");
            }
        }
        gives("a field: array", 2, classes[0], "method none", "new 0", "field 0.2", "size", "drop", "return");
        gives("a field: box", 2, classes[0], "method none", "new 0", "field 0.3", "open", "drop", "return");
        gives("a field: object0", 2, classes[0], classes[1], "method none", "new 1", "field 1.0", "field 0.0", "drop", "return");
        gives("a field: object1", 2, classes[0], classes[1], "method none", "new 1", "field 1.1", "field 1.0", "drop", "return");
        for (int i : new int[] {0, 1, 18, 19}) {
            gives("number " + i + " of an array", 0, "method number", "const 20 array const " + i + " item return");
        }
    }

    /** Code that has the sum of all that is not 0 or not null, and then fills it. */
    private static final String[] FILLS = {"class number pair array box",
        "method number number / number number number number",
        "call 1 set 0 call 1 get 0 add set 0 get 0 get 1 add get 2 add get 3 add",
        "const 7 set 0 const 7 set 1 const 7 set 2 const 7 set 3 return",
        "method number / object0 array pair number",
        "get 3 get 2 first add get 2 second add set 3",
        "new 0 set 0 const 20 array set 1",
        "get 0 field 0.0 get 0 field 0.1 first add get 0 field 0.1 second add",
        "get 1 const 0 item add get 1 const 19 item add get 3 add",
        "get 1 const 0 const 9 keep get 1 const 19 const 9 keep const 8 const 9 pair set 2",
        "get 0 const 5 store 0.0 get 0 get 2 store 0.1 const 6 set 3 return"};

    private static void zeroAndNullAgain() {
        Check.sentence("All numbers and pairs are 0 at first, the others null.");
        TypedEngine x = new Asm(FILLS).engine();
        for (int run = 0; run < 4; run++) {
            Check.due("start", x.start(0, 9, 9), true);
            x.step(run == 2 ? 30 : 500);
            Check.due("over", x.state(), run == 2 ? 1 : 2);
            Check.due("nothing is left of former calls and runs", x.result(), 0);
            Check.due("made", x.look(4), run == 2 ? 2 : 4);
        }
        TypedEngine y = new Asm("class array box object0", "method number number / array box object0", "region a b c catch",
            "a: arg 0 if d get 0 size drop leave c", "d: get 1 open drop leave c", "b: drop const 20 array set 0 const 1 const 1 pair box set 1 new 0 set 2 leave c",
            "c: const 1 array size return").engine();
        for (int run = 0; run < 4; run++) {
            y.start(0, run % 2, 0);
            y.step(500);
            Check.due("result", y.result(), 1);
            Check.due("a local is null again", y.entered(0, 0), 1);
        }
    }
}
