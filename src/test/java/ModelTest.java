import java.util.ArrayList;
import java.util.Arrays;
import java.util.List;
import java.util.Map;
import java.util.TreeMap;

/** Many runs of calls, made by a generator with a fixed seed, that the class has to answer as the model does. */
public final class ModelTest {
    private static final String[] NAMES = {"a", "b", "c", "0", "1", "ab", "by", "", "x.y", "$a", "\u00c3\u00a9"};
    private static final String[] STEPS = {"a", "a", "b", "b", "c", "0", "0", "1", "2", "00", "ab", "\u00c3\u00a9"};
    private static final String[] TEXTS = {"", "a", "b", "ab", "a\0", "a\0b", "\u00c3\u00a9", "\u00f0\u009f\u0098\u0080", "$a", "$"};
    private static final long[] NUMBERS = {0, 1, -1, 2, 3, 5, 255, 256, -300, Integer.MAX_VALUE, Integer.MIN_VALUE};
    private static final long[] GREAT = {Long.MAX_VALUE, Long.MIN_VALUE, 1L << 32, -(1L << 32), (1L << 62) + 1};

    /** Changing calls of one run, so that enough of its 512 are left for readings. */
    private static final int CHANGES_MOST = 360;

    private long seed;
    private Run belt;
    private Model model;
    private final Map<String, Integer> met = new TreeMap<>();
    private int wrong;
    private String last = "";

    public static void main(String[] args) {
        int runs = args.length > 0 ? Integer.parseInt(args[0]) : 2000;
        ModelTest t = new ModelTest();
        for (int i = 0; i < runs && t.wrong < 10; i++) {
            t.run(i);
        }
        System.out.println(t.met);
        if (args.length == 0) {
            t.mustHaveMet();
        }
        System.out.println(t.wrong == 0 ? "all answers are as the model's" : t.wrong + " answers are wrong");
        if (t.wrong != 0) {
            System.exit(1);
        }
    }

    /** The generator is of no use if it does not come to what it is there for. */
    private void mustHaveMet() {
        for (String stage : List.of("$project", "$unwind", "$group", "$sort", "$skip", "$limit", "$lookup")) {
            must(stage + " done", 100);
            must(stage + " fault 2", 20);
        }
        for (String s : List.of("$project", "$unwind", "$group", "$sort", "$lookup")) must(s + " fault 3", 20);
        for (String s : List.of("$project", "$unwind", "$group", "$lookup")) must(s + " fault 5", 5);
        must("$group fault 4", 20);
        must("put -3", 20);
    }

    private void must(String what, int times) {
        if (met.getOrDefault(what, 0) < times) {
            wrong++;
            System.out.println("met too seldom: " + what);
        }
    }

    private int below(int n) {
        seed = seed * 6364136223846793005L + 1442695040888963407L;
        return (int) ((seed >>> 33) % n);
    }

    private boolean once(int n) {
        return below(n) == 0;
    }

    private void run(int number) {
        seed = number * 7919L + 17;
        belt = new Run();
        model = new Model();
        int size = once(3) ? 60 : once(2) ? 12 : 4;
        for (int b = 0; b < 2; b++) {
            if (once(5)) {
                unwound(size);
            }
            for (int i = below(8); i > 0; i--) {
                put(0, document(b == 0 || once(3) ? size : 4));
            }
            swap();
        }
        for (int i = 5 + below(20); i > 0 && wrong < 10; i--) {
            other(size);
            for (int j = belt.many(0, 0) == 0 ? below(6) : 0; j > 0; j--) {
                put(0, document(size));
            }
            stage(aStage(size));
            compare(once(6));
        }
        compare(true);
    }

    /** Many documents on belt 0, by few calls: often near the 200 or the 40,000 bytes that it has room for. */
    private void unwound(int size) {
        int each = 5 + below(25);
        for (int many = 0; many + each <= 200 && (many < 150 || once(2)); many += each) {
            List<Tree.Value> items = new ArrayList<>();
            for (int j = 0; j < each; j++) {
                items.add(once(2) ? value(4, 4) : new Tree.Num(16, j));
            }
            List<Tree.Part> parts = new ArrayList<>(List.of(new Tree.Part("u", new Tree.Row(items))));
            for (Tree.Part p : document(size).parts()) {
                add(parts, p.name(), p.value());
            }
            put(0, new Tree.Doc(parts));
        }
        stage(new Tree.Doc(List.of(new Tree.Part("$unwind", new Tree.Text("$u")))));
        if (once(2)) {
            Tree.Doc plan = new Tree.Doc(List.of(new Tree.Part("a", new Tree.Text("$u")),
                new Tree.Part("b", new Tree.Truth(true)), new Tree.Part("ab", new Tree.Text("y".repeat(below(250))))));
            stage(new Tree.Doc(List.of(new Tree.Part("$project", plan))));
        }
        for (int i = once(2) ? below(12) : 0; i > 0; i--) {
            put(0, document(4));
        }
    }

    private void other(int size) {
        int which = below(14);
        if (which == 0) {
            swap();
        } else if (which == 1 && once(4)) {
            int b = below(4) - 1;
            due("clear", belt.clear(b), model.clear(b));
        } else if (which < 5) {
            put(below(2), document(size));
        } else if (which == 5) {
            boolean asStage = once(2);
            byte[] bytes = Tree.encode(asStage ? aStage(size) : document(size));
            for (int i = 1 + below(2); i > 0; i--) {
                bytes[below(bytes.length)] = (byte) (once(2) ? below(20) : below(256));
            }
            if (!isRoomFor(bytes)) {
                return;
            }
            send(bytes);
            if (asStage) {
                due("stage", belt.stage(bytes.length), model.stage(bytes.length));
            } else {
                due("put", belt.put(0, bytes.length), model.put(0, bytes.length));
            }
        } else if (which == 6) {
            byte[] bytes = Tree.encode(document(4));
            if (!isRoomFor(bytes)) {
                return;
            }
            send(bytes);
            int b = below(4) - 1;
            int n = below(60) - 3;
            due("put", belt.put(b, n), model.put(b, n));
            due("stage", belt.stage(n), model.stage(n));
        } else if (which == 7 && once(3)) {
            for (int i = below(30); i > 0; i--) {
                put(below(2), document(4));
            }
        }
    }

    private void swap() {
        belt.swap();
        model.swap();
    }

    /** Whether they can be sent and used before the run has made its calls. */
    private boolean isRoomFor(byte[] bytes) {
        return bytes.length <= 2000 && belt.changes() + bytes.length / 20 < CHANGES_MOST;
    }

    private void put(int b, Tree.Doc d) {
        byte[] bytes = Tree.encode(d);
        if (!isRoomFor(bytes)) {
            return;
        }
        send(bytes);
        int got = belt.put(b, bytes.length);
        due("put", got, model.put(b, bytes.length));
        if (got < 0) met.merge("put " + got, 1, Integer::sum);
    }

    private void stage(Tree.Doc d) {
        byte[] bytes = Tree.encode(d);
        if (!isRoomFor(bytes)) {
            return;
        }
        last = Tree.show(d);
        send(bytes);
        int got = belt.stage(bytes.length);
        due("stage " + last, got, model.stage(bytes.length));
        String name = d.parts().isEmpty() ? "none" : d.parts().get(0).name();
        met.merge(name + (got >= 0 ? " done" : got == -1 ? " is no document" : " fault " + (got + 10)), 1, Integer::sum);
    }

    private void send(byte[] bytes) {
        byte[] all = Arrays.copyOf(bytes, (bytes.length + 19) / 20 * 20);
        int[] n = new int[5];
        for (int i = 0; i < all.length; i += 20) {
            for (int j = 0; j < 5; j++) {
                n[j] = java.nio.ByteBuffer.wrap(all, i + 4 * j, 4).getInt();
            }
            due("feed", belt.feed(n[0], n[1], n[2], n[3], n[4]), model.feed(n));
        }
    }

    private void due(String call, int got, int want) {
        if (got != want) {
            wrong++;
            System.out.println(call + " answered " + got + ", due is " + want);
        }
    }

    /** Each byte, or, as that takes many calls, how many there are and a few of them. */
    private void compare(boolean each) {
        for (int b = 0; b < 2; b++) {
            due("many 0 after " + last, belt.many(b, 0), model.many(b, 0));
            due("many 1 after " + last, belt.many(b, 1), model.many(b, 1));
            int many = model.many(b, 0);
            if (!each && many > 0) {
                compareDocument(b, below(many), 8);
            }
            for (int k = 0; each && k < many && wrong == 0; k++) {
                compareDocument(b, k, Integer.MAX_VALUE);
            }
        }
    }

    private void compareDocument(int b, int k, int most) {
        byte[] want = model.document(b, k);
        due("size after " + last, belt.size(b, k), want.length);
        int from = most < want.length ? below(want.length - most) : 0;
        for (int i = from; i < want.length && i - from < most && wrong == 0; i++) {
            if (belt.byteAt(b, k, i) != (want[i] & 255)) {
                wrong++;
                System.out.println("after " + last + " document " + k + " of " + b + " has a wrong byte " + i + ", due is "
                    + Tree.show(Tree.decode(want)));
            }
        }
    }

    // ---- what is generated

    private Tree.Doc document(int size) {
        if (once(60)) {
            return deep(12 + below(5));
        }
        List<Tree.Part> parts = new ArrayList<>();
        int count = below(4) + (size > 20 ? below(6) : 1);
        for (int i = 0; i < count; i++) {
            add(parts, NAMES[once(8) ? below(NAMES.length) : below(4)], value(size, 1));
        }
        return new Tree.Doc(parts);
    }

    private Tree.Doc deep(int depth) {
        Tree.Value v = new Tree.Num(16, below(3));
        for (int i = 1; i < depth; i++) {
            v = once(2) ? new Tree.Row(new ArrayList<>(List.of(v)))
                : new Tree.Doc(new ArrayList<>(List.of(new Tree.Part(once(2) ? "a" : "0", v))));
        }
        return new Tree.Doc(List.of(new Tree.Part(once(2) ? "a" : "0", v)));
    }

    private static void add(List<Tree.Part> parts, String name, Tree.Value v) {
        if (parts.stream().noneMatch(p -> p.name().equals(name))) {
            parts.add(new Tree.Part(name, v));
        }
    }

    private Tree.Value value(int size, int depth) {
        int which = below(depth > 5 ? 7 : 12);
        if (which < 3) return new Tree.Num(once(2) ? 16 : 18, NUMBERS[below(once(4) ? NUMBERS.length : 5)]);
        if (which == 3) return once(2) ? new Tree.Num(18, GREAT[below(GREAT.length)]) : new Tree.Num(16, below(3));
        if (which == 4) return new Tree.Text(TEXTS[below(TEXTS.length)]);
        if (which == 5) return once(2) ? Tree.None.NOTHING : new Tree.Truth(once(2));
        if (which == 6) return new Tree.Text("x".repeat(below(size)));
        if (which < 10) {
            List<Tree.Value> items = new ArrayList<>();
            int count = below(once(8) ? size : 4);
            for (int i = 0; i < count; i++) items.add(value(size / 2 + 1, depth + 1));
            return new Tree.Row(items);
        }
        List<Tree.Part> parts = new ArrayList<>();
        int count = below(4);
        for (int i = 0; i < count; i++) {
            add(parts, NAMES[once(8) ? below(NAMES.length) : below(5)], value(size / 2 + 1, depth + 1));
        }
        return new Tree.Doc(parts);
    }

    private String path() {
        if (once(40)) return new String[] {"", ".", "a.", ".a", "a..b", "$a", "a.$b", "a\0", "a.b.c.a.b.c.a.b.c"}[below(9)];
        if (once(20)) return "0.0.0.0.0.0.0.0";
        if (once(30)) return "a.0.99999999999999999999";
        StringBuilder s = new StringBuilder(STEPS[below(4)]);
        for (int i = below(4); i > 0; i--) s.append('.').append(STEPS[below(STEPS.length)]);
        return s.toString();
    }

    private Tree.Value expression(int size) {
        if (once(6)) return value(size, 3);
        return new Tree.Text("$" + path());
    }

    private String plainName() {
        return once(60) ? NAMES[below(NAMES.length)] : NAMES[below(7)];
    }

    private Tree.Doc aStage(int size) {
        List<Tree.Part> parts = new ArrayList<>();
        if (once(50)) {
            parts.add(new Tree.Part(once(2) ? "$match" : "$projec", value(4, 3)));
        } else {
            int which = below(20);
            String name = which < 4 ? "$project" : which < 8 ? "$unwind" : which < 12 ? "$group" : which < 15 ? "$sort"
                : which < 19 ? "$lookup" : once(2) ? "$skip" : "$limit";
            parts.add(new Tree.Part(name, once(40) ? value(4, 3) : planOf(name, size)));
        }
        if (once(80)) parts.add(new Tree.Part("more", value(4, 3)));
        if (once(100)) parts.remove(0);
        return new Tree.Doc(parts);
    }

    private Tree.Value planOf(String name, int size) {
        switch (name) {
            case "$project": return projectPlan(size);
            case "$unwind": return new Tree.Text((once(20) ? "" : "$") + path());
            case "$group": return groupPlan(size);
            case "$sort": return sortPlan();
            case "$lookup": return lookupPlan();
            default: return new Tree.Num(once(2) ? 16 : 18, once(8) ? NUMBERS[below(NUMBERS.length)] : below(once(2) ? 4 : 300));
        }
    }

    private Tree.Value projectPlan(int size) {
        List<Tree.Part> plan = new ArrayList<>();
        for (int i = once(40) ? 0 : 1 + below(5); i > 0; i--) {
            add(plan, plainName(), once(2) ? new Tree.Truth(!once(6)) : expression(size));
        }
        if (once(10)) add(plan, "long", new Tree.Text("y".repeat(below(1900))));
        return new Tree.Doc(plan);
    }

    private Tree.Value groupPlan(int size) {
        String[] works = {"$sum", "$sum", "$min", "$max", "$first", "$last", "$push", "$push", "$addToSet", "$count"};
        List<Tree.Part> plan = new ArrayList<>();
        plan.add(new Tree.Part(once(60) ? "BY" : "by", once(4) ? Tree.None.NOTHING : expression(size)));
        for (int i = below(5); i > 0; i--) {
            String work = once(60) ? "$avg" : works[below(works.length)];
            Tree.Value told = work.equals("$count") != once(60) ? Tree.None.NOTHING : expression(size);
            if (work.equals("$sum") && once(8)) told = new Tree.Num(18, GREAT[below(GREAT.length)]);
            List<Tree.Part> parts = new ArrayList<>(List.of(new Tree.Part(work, told)));
            if (once(80)) parts.add(new Tree.Part("more", told));
            add(plan, plainName(), once(80) ? told : new Tree.Doc(parts));
        }
        return new Tree.Doc(plan);
    }

    private Tree.Value sortPlan() {
        List<Tree.Part> plan = new ArrayList<>();
        for (int i = once(30) ? below(7) : 1 + below(3); i > 0; i--) {
            add(plan, path(), new Tree.Num(once(2) ? 16 : 18, once(40) ? 2 : once(2) ? 1 : -1));
        }
        return new Tree.Doc(plan);
    }

    private Tree.Value lookupPlan() {
        List<Tree.Part> plan = new ArrayList<>();
        add(plan, once(60) ? "Here" : "here", once(60) ? Tree.None.NOTHING : new Tree.Text(path()));
        add(plan, "there", new Tree.Text(path()));
        add(plan, "as", new Tree.Text(once(40) ? TEXTS[below(TEXTS.length)] : plainName()));
        if (once(60)) plan.remove(below(3));
        if (once(60)) java.util.Collections.swap(plan, 0, 1);
        return new Tree.Doc(plan);
    }
}
