import java.util.ArrayDeque;
import java.util.ArrayList;
import java.util.Arrays;
import java.util.Collections;
import java.util.Deque;
import java.util.HashMap;
import java.util.HashSet;
import java.util.Iterator;
import java.util.List;
import java.util.Map;
import java.util.Set;
import java.util.TreeMap;

/**
 * The document once more, written apart from TypedEngine and in another way: with the Java library's
 * lists and maps, with values that know their kind, and with Java's exceptions for what is thrown.
 */
final class Model {
    private static final List<Integer> TWO_BYTES =
        Arrays.asList(1, 2, 3, 4, 5, 6, 13, 14, 15, 16, 17, 18, 19, 20, 33, 36);

    private static final class NoImage extends Exception {
        private static final long serialVersionUID = 1;
    }

    private static final class Unverified extends Exception {
        private static final long serialVersionUID = 1;
    }

    private static final class Thrown extends Exception {
        private static final long serialVersionUID = 1;
        final int number;

        Thrown(int number) {
            this.number = number;
        }
    }

    private static final class Region {
        int from;
        int middle;
        int end;
        int kind;

        boolean inPart(int p) {
            return from <= p && p < middle;
        }

        boolean inHandler(int p) {
            return middle <= p && p < end;
        }
    }

    private static final class Body {
        int result;
        List<Integer> arguments = new ArrayList<>();
        List<Integer> locals = new ArrayList<>();
        List<Region> regions = new ArrayList<>();
        List<Integer> code = new ArrayList<>();
        Map<Integer, List<Integer>> stacks;

        int k(int p) {
            return code.get(p + 1);
        }

        int target(int p) {
            return p + 2 + (byte) k(p);
        }

        /** Names of all parts and handlers in which p lies. */
        Set<String> zones(int p) {
            Set<String> zones = new HashSet<>();
            for (int r = 0; r < regions.size(); r++) {
                if (regions.get(r).inPart(p)) {
                    zones.add("part " + r);
                }
                if (regions.get(r).inHandler(p)) {
                    zones.add("handler " + r);
                }
            }
            return zones;
        }
    }

    /** What is taken as a PLACE. */
    private static final class Place {
        final Object[] row;
        final int i;

        Place(Object[] row, int i) {
            this.row = row;
            this.i = i;
        }
    }

    private static final class Pair {
        final int a;
        final int b;

        Pair(int a, int b) {
            this.a = a;
            this.b = b;
        }
    }

    private static final class Pending {
        final boolean isLeave;
        final int number;
        final int from;

        Pending(boolean isLeave, int number, int from) {
            this.isLeave = isLeave;
            this.number = number;
            this.from = from;
        }
    }

    private static final class Active {
        int m;
        Body body;
        Object[] arguments;
        Object[] locals;
        List<Object> stack = new ArrayList<>();
        int place;
        Map<Integer, Pending> pending = new HashMap<>();

        Object take() {
            return stack.remove(stack.size() - 1);
        }

        int number() {
            return (Integer) take();
        }
    }

    private final List<Integer> draft = new ArrayList<>();
    private List<List<Integer>> classes = new ArrayList<>();
    private List<Body> methods = new ArrayList<>();
    private List<Active> active = new ArrayList<>();
    private int state;
    private int result;
    private int made;
    private Map<String, Integer> entries = new TreeMap<>();

    boolean draft(long v, int n) {
        if (n < 1 || n > 8 || draft.size() + n > 400) {
            return false;
        }
        long rest = v;
        for (int i = 0; i < n; i++) {
            draft.add((int) (rest & 0xFF));
            rest >>= 8;
        }
        return true;
    }

    void clear() {
        draft.clear();
    }

    int load() {
        List<List<Integer>> readClasses = new ArrayList<>();
        List<Body> readMethods = new ArrayList<>();
        try {
            Iterator<Integer> in = draft.iterator();
            read(in, readClasses, readMethods);
        } catch (NoImage e) {
            return -1;
        }
        classes = readClasses;
        methods = readMethods;
        for (Body body : methods) {
            try {
                body.stacks = stacksOf(body);
            } catch (Unverified e) {
                body.stacks = null;
            }
        }
        state = 0;
        return methods.size();
    }

    private static int within(Iterator<Integer> in, int least, int most) throws NoImage {
        if (!in.hasNext()) {
            throw new NoImage();
        }
        int number = in.next();
        if (number < least || number > most) {
            throw new NoImage();
        }
        return number;
    }

    private static List<Integer> types(Iterator<Integer> in, int most, int howManyClasses, boolean withPlaces)
            throws NoImage {
        List<Integer> types = new ArrayList<>();
        int count = within(in, 0, most);
        for (int i = 0; i < count; i++) {
            int t = within(in, 1, 7 + howManyClasses);
            if (t == 6 || t == 7 || t == 3 && !withPlaces) {
                throw new NoImage();
            }
            types.add(t);
        }
        return types;
    }

    private static void read(Iterator<Integer> in, List<List<Integer>> classes, List<Body> methods) throws NoImage {
        within(in, 77, 77);
        int howMany = within(in, 0, 4);
        for (int c = 0; c < howMany; c++) {
            classes.add(types(in, 4, howMany, false));
        }
        int count = within(in, 1, 6);
        for (int m = 0; m < count; m++) {
            Body body = new Body();
            body.result = within(in, 0, 7 + howMany);
            if (Arrays.asList(3, 6, 7).contains(body.result)) {
                throw new NoImage();
            }
            body.arguments = types(in, 3, howMany, true);
            body.locals = types(in, 4, howMany, false);
            int regions = within(in, 0, 3);
            for (int r = 0; r < regions; r++) {
                Region region = new Region();
                region.from = within(in, 0, 255);
                region.middle = within(in, 0, 255);
                region.end = within(in, 0, 255);
                region.kind = within(in, 0, 1);
                body.regions.add(region);
            }
            int size = within(in, 1, 100);
            for (int p = 0; p < size; p++) {
                body.code.add(within(in, 0, 255));
            }
            methods.add(body);
        }
        if (in.hasNext()) {
            throw new NoImage();
        }
    }

    private static void need(boolean right) throws Unverified {
        if (!right) {
            throw new Unverified();
        }
    }

    private static Set<Integer> beginnings(Body body) throws Unverified {
        Set<Integer> beginnings = new HashSet<>();
        int p = 0;
        while (p < body.code.size()) {
            need(body.code.get(p) <= 37);
            beginnings.add(p);
            p += TWO_BYTES.contains(body.code.get(p)) ? 2 : 1;
        }
        need(p == body.code.size());
        return beginnings;
    }

    private static boolean liesIn(Region inner, int from, int end) {
        return from <= inner.from && inner.end <= end;
    }

    private static void needRegions(Body body, Set<Integer> beginnings) throws Unverified {
        int size = body.code.size();
        for (int i = 0; i < body.regions.size(); i++) {
            Region a = body.regions.get(i);
            need(a.from < a.middle && a.middle < a.end && a.end <= size);
            need(beginnings.contains(a.from) && beginnings.contains(a.middle));
            need(beginnings.contains(a.end) || a.end == size);
            for (int j = i + 1; j < body.regions.size(); j++) {
                Region b = body.regions.get(j);
                Set<Integer> both = new HashSet<>();
                for (int p = 0; p < size; p++) {
                    if (a.from <= p && p < a.end && b.from <= p && p < b.end) {
                        both.add(p);
                    }
                }
                need(both.isEmpty() || liesIn(a, b.from, b.middle) || liesIn(a, b.middle, b.end));
            }
        }
    }

    private Map<Integer, List<Integer>> stacksOf(Body body) throws Unverified {
        Set<Integer> beginnings = beginnings(body);
        needRegions(body, beginnings);
        Map<Integer, List<Integer>> stacks = new TreeMap<>();
        Deque<Integer> open = new ArrayDeque<>();
        reach(stacks, open, 0, Collections.emptyList());
        while (!open.isEmpty()) {
            int p = open.removeLast();
            int op = body.code.get(p);
            List<Integer> stack = new ArrayList<>(stacks.get(p));
            for (Region region : body.regions) {
                if (region.inPart(p)) {
                    reach(stacks, open, region.middle,
                        region.kind == 0 ? Collections.singletonList(1) : Collections.emptyList());
                }
            }
            if (op == 34) {
                need(body.zones(p).isEmpty());
            }
            if (op == 37) {
                needDone(body, p);
                need(stack.isEmpty());
            }
            change(body, p, stack);
            if (op == 36) {
                needLeave(body, p, body.target(p));
                need(beginnings.contains(body.target(p)));
                reach(stacks, open, body.target(p), Collections.emptyList());
            }
            List<Integer> nexts = new ArrayList<>();
            if (op >= 13 && op <= 15) {
                nexts.add(body.target(p));
            }
            if (op != 13 && op < 34) {
                nexts.add(p + (TWO_BYTES.contains(op) ? 2 : 1));
            }
            for (int next : nexts) {
                need(beginnings.contains(next));
                needNext(body, p, next, stack);
                reach(stacks, open, next, stack);
            }
        }
        return stacks;
    }

    private static void reach(Map<Integer, List<Integer>> stacks, Deque<Integer> open, int p, List<Integer> stack)
            throws Unverified {
        need(stack.size() <= 8);
        List<Integer> before = stacks.put(p, new ArrayList<>(stack));
        if (before == null) {
            open.add(p);
        } else {
            need(before.equals(stack));
        }
    }

    private static void needDone(Body body, int p) throws Unverified {
        Region innermost = null;
        for (Region region : body.regions) {
            if (region.from <= p && p < region.end
                && (innermost == null || region.end - region.from < innermost.end - innermost.from)) {
                innermost = region;
            }
        }
        need(innermost != null && innermost.kind == 1 && innermost.inHandler(p));
    }

    private static void needLeave(Body body, int p, int next) throws Unverified {
        need(body.zones(p).containsAll(body.zones(next)));
        for (Region region : body.regions) {
            need(!(region.kind == 1 && region.inHandler(p) && !region.inHandler(next)));
        }
    }

    private static void needNext(Body body, int p, int next, List<Integer> stack) throws Unverified {
        Set<String> here = body.zones(p);
        Set<String> there = body.zones(next);
        if (here.equals(there)) {
            return;
        }
        for (int r = 0; r < body.regions.size(); r++) {
            Region region = body.regions.get(r);
            if (region.from == next && !region.inPart(p) && !region.inHandler(p)) {
                there.remove("part " + r);
            }
        }
        need(here.equals(there) && stack.isEmpty());
    }

    private static int of(List<Integer> types, int k) throws Unverified {
        need(k < types.size());
        return types.get(k);
    }

    private static void pull(List<Integer> stack, int... types) throws Unverified {
        for (int i = types.length - 1; i >= 0; i--) {
            need(!stack.isEmpty() && stack.remove(stack.size() - 1) == types[i]);
        }
    }

    private int fieldType(int k) throws Unverified {
        need(k / 4 < classes.size());
        return of(classes.get(k / 4), k % 4);
    }

    private void change(Body body, int p, List<Integer> stack) throws Unverified {
        int op = body.code.get(p);
        int k = TWO_BYTES.contains(op) ? body.k(p) : -1;
        switch (op) {
            case 0: case 13: case 36: case 37: break;
            case 1: stack.add(1); break;
            case 2: stack.add(of(body.locals, k)); break;
            case 3: pull(stack, of(body.locals, k)); break;
            case 4: need(of(body.locals, k) == 1); stack.add(3); break;
            case 5: stack.add(of(body.arguments, k)); break;
            case 6: pull(stack, of(body.arguments, k)); break;
            case 7: case 8: case 9: case 10: pull(stack, 1, 1); stack.add(1); break;
            case 11: need(!stack.isEmpty()); stack.add(stack.get(stack.size() - 1)); break;
            case 12: need(!stack.isEmpty()); stack.remove(stack.size() - 1); break;
            case 14: case 35: pull(stack, 1); break;
            case 15: pull(stack, 1, 1); break;
            case 16: need(k == 4 || k == 5 || k >= 8 && k < 8 + classes.size()); stack.add(k); break;
            case 17: need(k < classes.size()); stack.add(8 + k); break;
            case 18: pull(stack, 8 + k / 4); stack.add(fieldType(k)); break;
            case 19: pull(stack, 8 + k / 4, fieldType(k)); break;
            case 20: need(fieldType(k) == 1); pull(stack, 8 + k / 4); stack.add(3); break;
            case 21: pull(stack, 1); stack.add(4); break;
            case 22: pull(stack, 4, 1); stack.add(1); break;
            case 23: pull(stack, 4, 1, 1); break;
            case 24: pull(stack, 4, 1); stack.add(3); break;
            case 25: pull(stack, 4); stack.add(1); break;
            case 26: pull(stack, 3); stack.add(1); break;
            case 27: pull(stack, 3, 1); break;
            case 28: pull(stack, 1, 1); stack.add(2); break;
            case 29: case 30: pull(stack, 2); stack.add(1); break;
            case 31: pull(stack, 2); stack.add(5); break;
            case 32: pull(stack, 5); stack.add(2); break;
            case 33: changeByCall(k, stack); break;
            case 34: if (body.result != 0) { pull(stack, body.result); } break;
            default: throw new IllegalStateException();
        }
    }

    private void changeByCall(int k, List<Integer> stack) throws Unverified {
        need(k < methods.size());
        Body called = methods.get(k);
        int[] types = new int[called.arguments.size()];
        for (int i = 0; i < types.length; i++) {
            types[i] = called.arguments.get(i);
        }
        pull(stack, types);
        if (called.result != 0) {
            stack.add(called.result);
        }
    }

    private Body sound(int m) {
        return m >= 0 && m < methods.size() && methods.get(m).stacks != null ? methods.get(m) : null;
    }

    boolean verified(int m) {
        return sound(m) != null;
    }

    int depth(int m, int p) {
        Body body = sound(m);
        return body == null ? -2 : !body.stacks.containsKey(p) ? -1 : body.stacks.get(p).size();
    }

    int type(int m, int p, int i) {
        return i < 0 || i >= depth(m, p) ? 0 : methods.get(m).stacks.get(p).get(i);
    }

    private boolean allSound(int m, Set<Integer> seen) {
        if (!seen.add(m)) {
            return true;
        }
        Body body = sound(m);
        if (body == null) {
            return false;
        }
        for (int p : body.stacks.keySet()) {
            if (body.code.get(p) == 33 && !allSound(body.k(p), seen)) {
                return false;
            }
        }
        return true;
    }

    boolean start(int m, int a, int b) {
        if (!allSound(m, new HashSet<>()) || !new HashSet<>(Arrays.asList(1)).containsAll(methods.get(m).arguments)) {
            return false;
        }
        active = new ArrayList<>();
        entries = new TreeMap<>();
        made = 0;
        state = 1;
        activate(m, Arrays.asList(a, b, 0).subList(0, methods.get(m).arguments.size()).toArray());
        return true;
    }

    private static Object[] first(List<Integer> types) {
        Object[] row = new Object[types.size()];
        for (int i = 0; i < row.length; i++) {
            row[i] = types.get(i) == 1 ? (Object) 0 : types.get(i) == 2 ? new Pair(0, 0) : null;
        }
        return row;
    }

    private void activate(int m, Object[] arguments) {
        Active one = new Active();
        one.m = m;
        one.body = methods.get(m);
        one.arguments = arguments;
        one.locals = first(one.body.locals);
        active.add(one);
    }

    int step(int n) {
        if (state == 0 || n < 0 || n > 500) {
            return -1;
        }
        int count = 0;
        while (count < n && state == 1) {
            count++;
            Active one = active.get(active.size() - 1);
            try {
                perform(one, one.body.code.get(one.place));
            } catch (Thrown e) {
                thrown(one, e.number, one.place, 0);
            }
        }
        return count;
    }

    private void enter(Active one, int r) {
        entries.merge(one.m + " " + r, 1, Integer::sum);
        one.stack.clear();
        one.place = one.body.regions.get(r).middle;
    }

    private void thrown(Active one, int e, int from, int first) {
        for (int r = first; r < one.body.regions.size(); r++) {
            Region region = one.body.regions.get(r);
            if (region.inPart(from)) {
                enter(one, r);
                if (region.kind == 0) {
                    one.stack.add(e);
                } else {
                    one.pending.put(r, new Pending(false, e, from));
                }
                return;
            }
        }
        active.remove(active.size() - 1);
        if (active.isEmpty()) {
            state = 3;
            result = e;
        } else {
            Active caller = active.get(active.size() - 1);
            thrown(caller, e, caller.place, 0);
        }
    }

    private void leave(Active one, int target, int from, int first) {
        one.stack.clear();
        for (int r = first; r < one.body.regions.size(); r++) {
            Region region = one.body.regions.get(r);
            if (region.kind == 1 && region.inPart(from) && !region.inPart(target)) {
                enter(one, r);
                one.pending.put(r, new Pending(true, target, from));
                return;
            }
        }
        one.place = target;
    }

    private void done(Active one) {
        int r = 0;
        while (!one.body.regions.get(r).inHandler(one.place)) {
            r++;
        }
        Pending pending = one.pending.remove(r);
        if (pending.isLeave) {
            leave(one, pending.number, pending.from, r + 1);
        } else {
            thrown(one, pending.number, pending.from, r + 1);
        }
    }

    private Object[] make(Object[] thing) throws Thrown {
        if (made == 40) {
            throw new Thrown(4);
        }
        made++;
        return thing;
    }

    private static Object[] thing(Object taken) throws Thrown {
        if (taken == null) {
            throw new Thrown(2);
        }
        return (Object[]) taken;
    }

    private static Place item(Object array, int i) throws Thrown {
        Object[] row = thing(array);
        if (i < 0 || i >= row.length) {
            throw new Thrown(3);
        }
        return new Place(row, i);
    }

    private void perform(Active one, int op) throws Thrown {
        int k = TWO_BYTES.contains(op) ? one.body.k(one.place) : -1;
        int behind = one.place + (k < 0 ? 1 : 2);
        if (op >= 13 && op <= 15) {
            boolean goes = true;
            if (op == 14) {
                goes = one.number() != 0;
            } else if (op == 15) {
                int b = one.number();
                goes = one.number() < b;
            }
            one.place = goes ? one.body.target(one.place) : behind;
        } else if (op == 33) {
            if (active.size() == 8) {
                throw new Thrown(5);
            }
            Object[] arguments = new Object[methods.get(k).arguments.size()];
            for (int i = arguments.length - 1; i >= 0; i--) {
                arguments[i] = one.take();
            }
            activate(k, arguments);
        } else if (op == 34) {
            giveBack(one);
        } else if (op == 35) {
            throw new Thrown(one.number());
        } else if (op == 36) {
            leave(one, one.body.target(one.place), one.place, 0);
        } else if (op == 37) {
            done(one);
        } else {
            if (op < 13) {
                performSimple(one, op, k);
            } else {
                performThing(one, op, k);
            }
            one.place = behind;
        }
    }

    private void giveBack(Active one) {
        Object value = one.body.result == 0 ? null : one.take();
        active.remove(active.size() - 1);
        if (active.isEmpty()) {
            state = 2;
            result = value instanceof Integer ? (Integer) value : value instanceof Pair ? ((Pair) value).a : 0;
        } else {
            Active caller = active.get(active.size() - 1);
            if (one.body.result != 0) {
                caller.stack.add(value);
            }
            caller.place += 2;
        }
    }

    private void performSimple(Active one, int op, int k) throws Thrown {
        if (op >= 7 && op <= 10) {
            int b = one.number();
            int a = one.number();
            if (op == 10 && b == 0) {
                throw new Thrown(1);
            }
            one.stack.add(op == 7 ? a + b : op == 8 ? a - b : op == 9 ? a * b : a / b);
            return;
        }
        switch (op) {
            case 0: break;
            case 1: one.stack.add((int) (byte) k); break;
            case 2: one.stack.add(one.locals[k]); break;
            case 3: one.locals[k] = one.take(); break;
            case 4: one.stack.add(new Place(one.locals, k)); break;
            case 5: one.stack.add(one.arguments[k]); break;
            case 6: one.arguments[k] = one.take(); break;
            case 11: one.stack.add(one.stack.get(one.stack.size() - 1)); break;
            case 12: one.take(); break;
            default: throw new IllegalStateException();
        }
    }

    private void performThing(Active one, int op, int k) throws Thrown {
        List<Object> stack = one.stack;
        Object top = op == 16 || op == 17 ? null : one.take();
        switch (op) {
            case 16: stack.add(null); break;
            case 17: stack.add(make(first(classes.get(k)))); break;
            case 18: stack.add(thing(top)[k % 4]); break;
            case 19: thing(one.take())[k % 4] = top; break;
            case 20: stack.add(new Place(thing(top), k % 4)); break;
            case 21:
                if ((Integer) top < 0 || (Integer) top > 20) {
                    throw new Thrown(3);
                }
                stack.add(make(first(Collections.nCopies((Integer) top, 1))));
                break;
            case 22: Place found = item(one.take(), (Integer) top); stack.add(found.row[found.i]); break;
            case 23: int i = one.number(); Place kept = item(one.take(), i); kept.row[kept.i] = top; break;
            case 24: stack.add(item(one.take(), (Integer) top)); break;
            case 25: stack.add(thing(top).length); break;
            case 26: stack.add(((Place) top).row[((Place) top).i]); break;
            case 27: Place place = (Place) one.take(); place.row[place.i] = top; break;
            case 28: int a = one.number(); stack.add(new Pair(a, (Integer) top)); break;
            case 29: stack.add(((Pair) top).a); break;
            case 30: stack.add(((Pair) top).b); break;
            case 31: stack.add(make(new Object[] {top})); break;
            case 32: stack.add(thing(top)[0]); break;
            default: throw new IllegalStateException();
        }
    }

    int state() {
        return state;
    }

    int result() {
        return state >= 2 ? result : 0;
    }

    int look(int what) {
        if (what == 4 && state != 0) {
            return made;
        }
        if (state != 1) {
            return -1;
        }
        Active one = active.get(active.size() - 1);
        return what == 0 ? one.m : what == 1 ? one.place : what == 2 ? active.size() : what == 3 ? one.stack.size() : -1;
    }

    int peek(int i) {
        if (state != 1) {
            return 0;
        }
        List<Object> stack = active.get(active.size() - 1).stack;
        return i >= 0 && i < stack.size() && stack.get(i) instanceof Integer ? (Integer) stack.get(i) : 0;
    }

    int entered(int m, int r) {
        return state == 0 ? 0 : entries.getOrDefault(m + " " + r, 0);
    }
}
