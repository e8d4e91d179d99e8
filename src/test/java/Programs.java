import java.util.ArrayList;
import java.util.List;
import java.util.Random;

/** Makes images at random, most of them of methods that are verified, from a seed. */
final class Programs {
    private static final int MOST_CODE = 100;

    private final Random random;
    private List<List<Integer>> classes;
    private List<int[]> heads;
    private int[] results;
    private List<int[]> locals;
    private int m;
    private List<Integer> code;
    private List<int[]> regions;
    private int regionsBegun;
    private List<Zone> zones;
    private List<int[]> goals;
    private List<Integer> labels;

    /** A part or handler that is being written. */
    private static final class Zone {
        final boolean isFinallyHandler;
        final int endLabel;

        Zone(boolean isFinallyHandler, int endLabel) {
            this.isFinallyHandler = isFinallyHandler;
            this.endLabel = endLabel;
        }
    }

    Programs(long seed) {
        random = new Random(seed);
    }

    /** The bytes of an image, or nearly of one. */
    int[] next() {
        int[] bytes = whole();
        while (bytes.length > 400) {
            bytes = whole();
        }
        if (random.nextInt(5) < 2) {
            spoil(bytes);
        }
        return bytes;
    }

    private void spoil(int[] bytes) {
        int count = 1 + random.nextInt(2);
        for (int i = 0; i < count; i++) {
            int at = random.nextInt(bytes.length);
            switch (random.nextInt(4)) {
                case 0: bytes[at] = random.nextInt(256); break;
                case 1: bytes[at] = random.nextInt(38); break;
                case 2: bytes[at] = bytes[at] + 1 & 255; break;
                default: bytes[at] = bytes[at] - 1 & 255; break;
            }
        }
    }

    private int keptType() {
        int t = random.nextInt(5 + classes.size());
        return t < 2 ? 1 : t == 2 ? 2 : t == 3 ? 4 : t == 4 ? 5 : 8 + t - 5;
    }

    private int[] whole() {
        List<Integer> out = new ArrayList<>();
        out.add(77);
        classes = new ArrayList<>();
        int howMany = random.nextInt(5);
        for (int c = 0; c < howMany; c++) {
            classes.add(new ArrayList<>());
        }
        out.add(howMany);
        for (List<Integer> fields : classes) {
            int count = random.nextInt(5);
            out.add(count);
            for (int f = 0; f < count; f++) {
                fields.add(keptType());
                out.add(fields.get(f));
            }
        }
        int methods = 1 + random.nextInt(4);
        out.add(methods);
        declare(methods);
        for (m = 0; m < methods; m++) {
            body();
            while (code.size() > MOST_CODE) {
                body();
            }
            write(out);
        }
        int[] bytes = new int[out.size()];
        for (int i = 0; i < bytes.length; i++) {
            bytes[i] = out.get(i);
        }
        return bytes;
    }

    private void declare(int methods) {
        heads = new ArrayList<>();
        locals = new ArrayList<>();
        results = new int[methods];
        for (int i = 0; i < methods; i++) {
            int[] arguments = new int[random.nextInt(4)];
            boolean numbers = random.nextBoolean();
            for (int k = 0; k < arguments.length; k++) {
                arguments[k] = numbers ? 1 : random.nextInt(3) == 0 ? 3 : keptType();
            }
            heads.add(arguments);
            int[] kept = new int[random.nextInt(5)];
            for (int k = 0; k < kept.length; k++) {
                kept[k] = keptType();
            }
            locals.add(kept);
            results[i] = random.nextInt(4) == 0 ? 0 : keptType();
        }
    }

    private void write(List<Integer> out) {
        out.add(results[m]);
        for (int[] row : new int[][] {heads.get(m), locals.get(m)}) {
            out.add(row.length);
            for (int t : row) {
                out.add(t);
            }
        }
        out.add(regions.size());
        for (int[] region : regions) {
            for (int number : region) {
                out.add(number);
            }
        }
        out.add(code.size());
        out.addAll(code);
    }

    private void body() {
        code = new ArrayList<>();
        regions = new ArrayList<>();
        regionsBegun = 0;
        zones = new ArrayList<>();
        goals = new ArrayList<>();
        labels = new ArrayList<>();
        block(0);
        if (random.nextInt(8) == 0) {
            value(1, 0);
        }
        back();
        for (int[] goal : goals) {
            code.set(goal[0], labels.get(goal[1]) - goal[0] - 1 & 255);
        }
    }

    private void back() {
        if (results[m] != 0) {
            value(results[m], 0);
        }
        code.add(34);
    }

    private void emit(int op, int k) {
        code.add(op);
        code.add(k & 255);
    }

    private int label() {
        labels.add(-1);
        return labels.size() - 1;
    }

    private void bind(int label) {
        labels.set(label, code.size());
    }

    private void jump(int op, int label) {
        code.add(op);
        goals.add(new int[] {code.size(), label});
        code.add(0);
    }

    /** The numbers k of those in the row that are of the type. */
    private List<Integer> those(int[] row, int type) {
        List<Integer> found = new ArrayList<>();
        for (int k = 0; k < row.length; k++) {
            if (row[k] == type) {
                found.add(k);
            }
        }
        return found;
    }

    private int one(List<Integer> row) {
        return row.get(random.nextInt(row.size()));
    }

    /** Code that puts a value of the type on the stack. */
    private void value(int type, int deep) {
        List<Integer> kept = those(locals.get(m), type);
        List<Integer> given = those(heads.get(m), type);
        int way = random.nextInt(deep > 2 ? 2 : 5);
        if (way == 0 && !kept.isEmpty()) {
            emit(2, one(kept));
        } else if (way == 1 && !given.isEmpty()) {
            emit(5, one(given));
        } else if (way == 2 && random.nextBoolean() && !callFor(type).isEmpty()) {
            call(one(callFor(type)), deep);
        } else if (type == 1) {
            number(deep);
        } else if (type == 2) {
            pair(deep);
        } else if (type == 3) {
            place(deep);
        } else {
            thing(type, deep);
        }
    }

    private List<Integer> callFor(int type) {
        return those(results, type);
    }

    private void call(int k, int deep) {
        for (int t : heads.get(k)) {
            value(t, deep + 1);
        }
        emit(33, k);
    }

    private void number(int deep) {
        int way = deep > 2 ? 0 : random.nextInt(9);
        if (way < 4) {
            emit(1, random.nextInt(3) == 0 ? random.nextInt(256) : random.nextInt(5) - 1);
        } else if (way == 4) {
            value(1, deep + 1);
            value(1, deep + 1);
            code.add(7 + random.nextInt(4));
        } else if (way == 5) {
            value(4, deep + 1);
            if (random.nextBoolean()) {
                code.add(25);
            } else {
                value(1, deep + 1);
                code.add(22);
            }
        } else if (way == 6) {
            value(2, deep + 1);
            code.add(29 + random.nextInt(2));
        } else if (way == 7) {
            value(3, deep + 1);
            code.add(26);
        } else {
            fieldOf(1, deep);
        }
    }

    private void pair(int deep) {
        int way = deep > 2 ? 0 : random.nextInt(4);
        if (way < 2) {
            value(1, deep + 2);
            value(1, deep + 2);
            code.add(28);
        } else if (way == 2) {
            value(5, deep + 1);
            code.add(32);
        } else {
            fieldOf(2, deep);
        }
    }

    private void place(int deep) {
        List<Integer> numbers = those(locals.get(m), 1);
        int way = random.nextInt(3);
        if (way == 0 && !numbers.isEmpty()) {
            emit(4, one(numbers));
        } else if (way == 1 && fieldFor(1) >= 0) {
            int k = fieldFor(1);
            value(8 + k / 4, deep + 1);
            emit(20, k);
        } else {
            value(4, deep + 1);
            value(1, deep + 2);
            code.add(24);
        }
    }

    private void thing(int type, int deep) {
        int way = random.nextInt(6);
        if (way == 0) {
            emit(16, type);
        } else if (way == 1 && deep < 2 && fieldFor(type) >= 0) {
            fieldOf(type, deep);
        } else if (type == 4) {
            emit(1, random.nextInt(12) == 0 ? random.nextInt(256) : random.nextInt(6));
            code.add(21);
        } else if (type == 5) {
            value(2, deep + 1);
            code.add(31);
        } else {
            emit(17, type - 8);
        }
    }

    /** The k of some field of the type, -1 if there is none. */
    private int fieldFor(int type) {
        List<Integer> found = new ArrayList<>();
        for (int c = 0; c < classes.size(); c++) {
            for (int f = 0; f < classes.get(c).size(); f++) {
                if (classes.get(c).get(f) == type) {
                    found.add(4 * c + f);
                }
            }
        }
        return found.isEmpty() ? -1 : one(found);
    }

    private void fieldOf(int type, int deep) {
        int k = fieldFor(type);
        if (k < 0) {
            if (type == 1) {
                emit(1, 2);
            } else {
                emit(1, 2);
                emit(1, -3);
                code.add(28);
            }
        } else {
            value(8 + k / 4, deep + 1);
            emit(18, k);
        }
    }

    private void block(int deep) {
        int count = 1 + random.nextInt(deep == 0 ? 4 : 2);
        for (int i = 0; i < count; i++) {
            if (code.size() < 80) {
                statement(deep);
            }
        }
    }

    private void statement(int deep) {
        int way = random.nextInt(12);
        if (way < 3 && deep < 4 && regionsBegun < 3) {
            region(deep);
        } else if (way == 3) {
            int over = label();
            value(1, 0);
            jump(14, over);
            block(deep + 1);
            bind(over);
        } else if (way == 4) {
            int again = label();
            bind(again);
            block(deep + 1);
            value(1, 0);
            value(1, 0);
            jump(15, again);
        } else if (way == 5) {
            int over = label();
            boolean always = random.nextInt(4) == 0;
            if (!always) {
                value(1, 0);
                jump(14, over);
            }
            away();
            bind(over);
        } else if (way == 6) {
            int k = random.nextInt(heads.size());
            call(k, 0);
            if (results[k] != 0) {
                code.add(12);
            }
        } else {
            change();
        }
    }

    /** Code that does not go on behind itself. */
    private void away() {
        int way = random.nextInt(4);
        if (random.nextInt(4) == 0) {
            value(keptType(), 1);
            way = way == 0 ? 0 : 1;
        }
        Zone inner = zones.isEmpty() ? null : zones.get(zones.size() - 1);
        if (way >= 1 && leaves() != -1) {
            jump(36, leaves());
        } else if (way >= 2 && inner != null && inner.isFinallyHandler) {
            code.add(37);
        } else if (way == 3 && inner == null) {
            back();
        } else {
            value(1, 1);
            code.add(35);
        }
    }

    /** The label of a place to which a leave may go, -1 if there is none. */
    private int leaves() {
        List<Integer> found = new ArrayList<>();
        for (int i = zones.size() - 1; i >= 0 && !zones.get(i).isFinallyHandler; i--) {
            found.add(zones.get(i).endLabel);
        }
        return found.isEmpty() ? -1 : one(found);
    }

    /** Code that changes a local, an argument, a field, an item or what a place points at. */
    private void change() {
        int way = random.nextInt(6);
        int[] kept = locals.get(m);
        int[] given = heads.get(m);
        if (way == 0 && kept.length > 0) {
            int k = random.nextInt(kept.length);
            value(kept[k], 0);
            emit(3, k);
        } else if (way == 1 && given.length > 0) {
            int k = random.nextInt(given.length);
            value(given[k], 0);
            emit(6, k);
        } else if (way == 2 && !classes.isEmpty()) {
            int c = random.nextInt(classes.size());
            value(8 + c, 0);
            if (classes.get(c).isEmpty()) {
                code.add(12);
            } else {
                int f = random.nextInt(classes.get(c).size());
                value(classes.get(c).get(f), 0);
                emit(19, 4 * c + f);
            }
        } else if (way == 3) {
            value(4, 0);
            value(1, 1);
            value(1, 1);
            code.add(23);
        } else if (way == 4) {
            value(3, 0);
            value(1, 1);
            code.add(27);
        } else {
            value(keptType(), 0);
            if (random.nextInt(3) == 0) {
                code.add(11);
                code.add(12);
            }
            code.add(random.nextInt(6) == 0 ? 0 : 12);
            if (code.get(code.size() - 1) == 0) {
                code.add(12);
            }
        }
    }

    private void region(int deep) {
        regionsBegun++;
        int end = label();
        boolean isFinally = random.nextBoolean();
        int from = code.size();
        zones.add(new Zone(false, end));
        block(deep + 1);
        if (random.nextInt(5) == 0) {
            away();
        } else {
            jump(36, end);
        }
        zones.remove(zones.size() - 1);
        int middle = code.size();
        zones.add(new Zone(isFinally, end));
        if (!isFinally) {
            List<Integer> numbers = those(locals.get(m), 1);
            if (numbers.isEmpty()) {
                code.add(12);
            } else {
                emit(3, one(numbers));
            }
        }
        if (random.nextInt(3) != 0) {
            block(deep + 1);
        }
        if (isFinally) {
            code.add(37);
        } else {
            jump(36, end);
        }
        zones.remove(zones.size() - 1);
        regions.add(new int[] {from, middle, code.size(), isFinally ? 1 : 0});
        bind(end);
    }
}
