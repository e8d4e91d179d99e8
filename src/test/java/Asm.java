import java.util.ArrayList;
import java.util.Arrays;
import java.util.HashMap;
import java.util.List;
import java.util.Map;

/**
 * Makes images from lines of text:
 *
 * <pre>
 *   class number array            a class with two fields
 *   method pair number / array    a method with result pair, one argument, one local
 *   region a b c catch            one of its regions, by labels
 *   a: const 5                    an instruction, behind as many labels as wanted
 *   field 1.2                     field 2 of class 1
 *   null object0                  a type's name as k
 *   go a                          goes to a label
 *   byte 200                      any byte
 *   c:                            the code's end has labels too
 * </pre>
 */
final class Asm {
    static final String[] NAMES = ("nop const get set spot arg put add sub mul div dup drop go if less null new "
        + "field store at array item keep point size load save pair first second box open call return throw "
        + "leave done").split(" ");
    private static final List<String> WITH_K = Arrays.asList(("const get set spot arg put go if less null new "
        + "field store at call leave").split(" "));
    private static final List<String> GOING = Arrays.asList("go", "if", "less", "leave");

    private final List<List<Integer>> classes = new ArrayList<>();
    private final List<Body> methods = new ArrayList<>();

    private static final class Body {
        int result;
        final List<Integer> arguments = new ArrayList<>();
        final List<Integer> locals = new ArrayList<>();
        final List<String[]> regions = new ArrayList<>();
        final List<Integer> code = new ArrayList<>();
        final Map<String, Integer> labels = new HashMap<>();
        final Map<Integer, String> goals = new HashMap<>();
    }

    Asm(String... lines) {
        for (String line : lines) {
            readLine(new ArrayList<>(Arrays.asList(line.trim().split("\\s+"))));
        }
        for (Body body : methods) {
            for (Map.Entry<Integer, String> goal : body.goals.entrySet()) {
                int d = place(body, goal.getValue()) - goal.getKey() - 1;
                body.code.set(goal.getKey(), d & 255);
            }
        }
    }

    static int type(String name) {
        switch (name) {
            case "none": return 0;
            case "number": return 1;
            case "pair": return 2;
            case "place": return 3;
            case "array": return 4;
            case "box": return 5;
            default:
                return name.startsWith("object") ? 8 + Integer.parseInt(name.substring(6)) : Integer.parseInt(name);
        }
    }

    private static int place(Body body, String label) {
        Integer p = body.labels.get(label);
        return p == null ? Integer.parseInt(label) : p;
    }

    private Body last() {
        return methods.get(methods.size() - 1);
    }

    private void readLine(List<String> words) {
        if (words.get(0).isEmpty()) {
            return;
        }
        if (words.get(0).equals("class")) {
            List<Integer> fields = new ArrayList<>();
            for (String word : words.subList(1, words.size())) {
                fields.add(type(word));
            }
            classes.add(fields);
        } else if (words.get(0).equals("method")) {
            Body body = new Body();
            body.result = type(words.get(1));
            List<Integer> into = body.arguments;
            for (String word : words.subList(2, words.size())) {
                if (word.equals("/")) {
                    into = body.locals;
                } else {
                    into.add(type(word));
                }
            }
            methods.add(body);
        } else if (words.get(0).equals("region")) {
            last().regions.add(words.subList(1, 5).toArray(new String[0]));
        } else {
            readCode(last(), words);
        }
    }

    private static void readCode(Body body, List<String> words) {
        int at = 0;
        while (at < words.size()) {
            String word = words.get(at++);
            if (word.endsWith(":")) {
                body.labels.put(word.substring(0, word.length() - 1), body.code.size());
            } else if (word.equals("byte")) {
                body.code.add(Integer.parseInt(words.get(at++)) & 255);
            } else {
                body.code.add(Arrays.asList(NAMES).indexOf(word));
                if (body.code.get(body.code.size() - 1) < 0) {
                    throw new IllegalArgumentException(word);
                }
                if (WITH_K.contains(word)) {
                    readK(body, word, words.get(at++));
                }
            }
        }
    }

    private static void readK(Body body, String op, String k) {
        if (GOING.contains(op)) {
            body.goals.put(body.code.size(), k);
            body.code.add(0);
        } else if (op.equals("null")) {
            body.code.add(type(k) & 255);
        } else if (k.contains(".")) {
            String[] two = k.split("\\.");
            body.code.add(4 * Integer.parseInt(two[0]) + Integer.parseInt(two[1]));
        } else {
            body.code.add(Integer.parseInt(k) & 255);
        }
    }

    int at(int m, String label) {
        return place(methods.get(m), label);
    }

    int[] bytes() {
        List<Integer> out = new ArrayList<>();
        out.add(77);
        out.add(classes.size());
        for (List<Integer> fields : classes) {
            out.add(fields.size());
            out.addAll(fields);
        }
        out.add(methods.size());
        for (Body body : methods) {
            out.add(body.result);
            out.add(body.arguments.size());
            out.addAll(body.arguments);
            out.add(body.locals.size());
            out.addAll(body.locals);
            out.add(body.regions.size());
            for (String[] region : body.regions) {
                for (int i = 0; i < 3; i++) {
                    out.add(place(body, region[i]));
                }
                out.add(region[3].equals("catch") ? 0 : region[3].equals("finally") ? 1 : Integer.parseInt(region[3]));
            }
            out.add(body.code.size());
            out.addAll(body.code);
        }
        int[] row = new int[out.size()];
        for (int i = 0; i < row.length; i++) {
            row[i] = out.get(i);
        }
        return row;
    }

    /** Drafts the bytes in place of what was drafted. */
    static void draft(TypedEngine x, int... bytes) {
        x.clear();
        for (int at = 0; at < bytes.length; at += 8) {
            int n = Math.min(8, bytes.length - at);
            long v = 0;
            for (int i = 0; i < n; i++) {
                v |= (long) bytes[at + i] << (8 * i);
            }
            if (!x.draft(v, n)) {
                throw new IllegalStateException("the image is too long");
            }
        }
    }

    static int load(TypedEngine x, int... bytes) {
        draft(x, bytes);
        return x.load();
    }

    /** An engine that has loaded the image. */
    TypedEngine engine() {
        TypedEngine x = new TypedEngine();
        if (load(x, bytes()) != methods.size()) {
            throw new IllegalStateException("the image was refused");
        }
        return x;
    }
}
