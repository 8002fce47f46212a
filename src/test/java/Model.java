import java.math.BigInteger;
import java.util.ArrayList;
import java.util.Arrays;
import java.util.List;

/** What the document says, in its plainest form over trees: the class has to answer as this does. */
final class Model {
    /** One of the document's faults. */
    static final class Fault extends RuntimeException {
        private static final long serialVersionUID = 1L;
        final int number;

        Fault(int number) {
            this.number = number;
        }
    }

    private byte[] tape = new byte[0];
    private final List<List<Tree.Doc>> belts = new ArrayList<>(List.of(new ArrayList<>(), new ArrayList<>()));

    int feed(int... numbers) {
        if (tape.length + 20 > 2000) return -1;
        int at = tape.length;
        tape = Arrays.copyOf(tape, at + 20);
        for (int n : numbers) {
            for (int shift = 24; shift >= 0; shift -= 8) tape[at++] = (byte) (n >> shift);
        }
        return at;
    }

    int put(int belt, int n) {
        if (belt < 0 || belt > 1 || n < 0 || n > tape.length) return -2;
        Tree.Doc d = Tree.decode(Arrays.copyOf(tape, n));
        tape = new byte[0];
        if (d == null) return -1;
        List<Tree.Doc> to = new ArrayList<>(belts.get(belt));
        to.add(d);
        if (to.size() > 200 || bytes(to) > 40000) return -3;
        belts.set(belt, to);
        return to.size();
    }

    int stage(int n) {
        if (n < 0 || n > tape.length) return -2;
        Tree.Doc d = Tree.decode(Arrays.copyOf(tape, n));
        tape = new byte[0];
        if (d == null) return -1;
        try {
            List<Tree.Doc> made = made(d);
            if (made.size() > 200 || bytes(made) > 40000) throw new Fault(5);
            for (Tree.Doc m : made) {
                if (Tree.encode(m).length > 2000 || Tree.depth(m) > 16) throw new Fault(5);
            }
            belts.set(0, made);
            return made.size();
        } catch (Fault f) {
            return f.number - 10;
        }
    }

    int many(int belt, int what) {
        if (belt < 0 || belt > 1 || what < 0 || what > 1) return -1;
        return what == 0 ? belts.get(belt).size() : bytes(belts.get(belt));
    }

    byte[] document(int belt, int k) {
        return Tree.encode(belts.get(belt).get(k));
    }

    int clear(int belt) {
        if (belt < 0 || belt > 1) return -1;
        int had = belts.get(belt).size();
        belts.set(belt, new ArrayList<>());
        return had;
    }

    void swap() {
        belts.add(belts.remove(0));
    }

    private static int bytes(List<Tree.Doc> docs) {
        int all = 0;
        for (Tree.Doc d : docs) all += Tree.encode(d).length;
        return all;
    }

    // ---- stages

    private List<Tree.Doc> made(Tree.Doc stage) {
        if (stage.parts().size() != 1) throw new Fault(1);
        Tree.Value v = stage.parts().get(0).value();
        switch (stage.parts().get(0).name()) {
            case "$project": return project(v);
            case "$unwind": return unwind(v);
            case "$group": return group(v);
            case "$sort": return sort(v);
            case "$skip": return belts.get(0).subList(firstOnes(v), belts.get(0).size());
            case "$limit": return belts.get(0).subList(0, firstOnes(v));
            case "$lookup": return lookup(v);
            default: throw new Fault(1);
        }
    }

    private static void need(boolean right, int fault) {
        if (!right) throw new Fault(fault);
    }

    private static boolean plain(String name) {
        return !name.isEmpty() && name.indexOf('.') < 0 && name.indexOf('\0') < 0 && !name.startsWith("$");
    }

    private static String[] path(String text) {
        String[] steps = text.split("\\.", -1);
        need(steps.length <= 8 && text.indexOf('\0') < 0, 3);
        for (String s : steps) need(!s.isEmpty() && !s.startsWith("$"), 3);
        return steps;
    }

    private static boolean pathAhead(Tree.Value e) {
        return e instanceof Tree.Text t && t.bytes().startsWith("$");
    }

    private static void checkExpression(Tree.Value e) {
        if (pathAhead(e)) path(((Tree.Text) e).bytes().substring(1));
    }

    private static Tree.Value evaluate(Tree.Value e, Tree.Doc d) {
        return pathAhead(e) ? value(d, path(((Tree.Text) e).bytes().substring(1)), 0) : e;
    }

    private static Tree.Value value(Tree.Value at, String[] steps, int i) {
        if (i == steps.length) return at;
        if (at instanceof Tree.Doc d) return value(d.get(steps[i]), steps, i + 1);
        if (at instanceof Tree.Row r) {
            List<Tree.Value> values = new ArrayList<>();
            for (Tree.Value item : r.items()) {
                Tree.Value v = item instanceof Tree.Doc ? value(item, steps, i) : Tree.None.MISSING;
                if (v != Tree.None.MISSING) values.add(v);
            }
            return new Tree.Row(values);
        }
        return Tree.None.MISSING;
    }

    static void leaves(Tree.Value at, String[] steps, int i, List<Tree.Value> out) {
        if (i == steps.length) {
            out.add(at);
            if (at instanceof Tree.Row r) out.addAll(r.items());
        } else if (at instanceof Tree.Doc d) {
            if (d.get(steps[i]) == Tree.None.MISSING) out.add(Tree.None.MISSING);
            else leaves(d.get(steps[i]), steps, i + 1, out);
        } else if (at instanceof Tree.Row r) {
            if (steps[i].matches("0|[1-9][0-9]*")) {
                BigInteger n = new BigInteger(steps[i]);
                if (n.compareTo(BigInteger.valueOf(r.items().size())) < 0) {
                    leaves(r.items().get(n.intValue()), steps, i + 1, out);
                }
            }
            for (Tree.Value item : r.items()) {
                if (item instanceof Tree.Doc) leaves(item, steps, i, out);
            }
        } else {
            out.add(Tree.None.MISSING);
        }
    }

    private List<Tree.Doc> project(Tree.Value v) {
        need(v instanceof Tree.Doc d && d.parts().size() > 0, 2);
        List<Tree.Part> plan = ((Tree.Doc) v).parts();
        for (Tree.Part p : plan) {
            need(plain(p.name()), 2);
            checkExpression(p.value());
        }
        List<Tree.Doc> made = new ArrayList<>();
        for (Tree.Doc d : belts.get(0)) {
            List<Tree.Part> parts = new ArrayList<>();
            for (Tree.Part p : plan) {
                boolean keep = p.value().equals(new Tree.Truth(true));
                Tree.Value e = keep ? d.get(p.name()) : evaluate(p.value(), d);
                if (e != Tree.None.MISSING) parts.add(new Tree.Part(p.name(), e));
            }
            made.add(new Tree.Doc(parts));
        }
        return made;
    }

    private List<Tree.Doc> unwind(Tree.Value v) {
        need(pathAhead(v), 2);
        String[] steps = path(((Tree.Text) v).bytes().substring(1));
        List<Tree.Doc> made = new ArrayList<>();
        for (Tree.Doc d : belts.get(0)) {
            Tree.Value at = d;
            for (String s : steps) at = at instanceof Tree.Doc x ? x.get(s) : Tree.None.MISSING;
            if (at instanceof Tree.Row r) {
                for (Tree.Value item : r.items()) made.add(replaced(d, steps, 0, item));
            } else if (!(at instanceof Tree.None)) {
                made.add(d);
            }
        }
        return made;
    }

    private static Tree.Doc replaced(Tree.Doc d, String[] steps, int i, Tree.Value item) {
        List<Tree.Part> parts = new ArrayList<>();
        for (Tree.Part p : d.parts()) {
            if (!p.name().equals(steps[i])) parts.add(p);
            else if (i + 1 == steps.length) parts.add(new Tree.Part(p.name(), item));
            else parts.add(new Tree.Part(p.name(), replaced((Tree.Doc) p.value(), steps, i + 1, item)));
        }
        return new Tree.Doc(parts);
    }

    private List<Tree.Doc> group(Tree.Value v) {
        need(v instanceof Tree.Doc d && d.parts().size() > 0, 2);
        List<Tree.Part> plan = ((Tree.Doc) v).parts();
        need(plan.get(0).name().equals("by"), 2);
        checkExpression(plan.get(0).value());
        for (Tree.Part p : plan.subList(1, plan.size())) checkWork(p);
        List<Tree.Value> keys = new ArrayList<>();
        List<List<Tree.Doc>> groups = new ArrayList<>();
        for (Tree.Doc d : belts.get(0)) {
            Tree.Value key = orNothing(evaluate(plan.get(0).value(), d));
            int g = 0;
            while (g < keys.size() && Tree.compare(keys.get(g), key) != 0) g++;
            if (g == keys.size()) {
                keys.add(key);
                groups.add(new ArrayList<>());
            }
            groups.get(g).add(d);
        }
        List<Tree.Doc> made = new ArrayList<>();
        for (int g = 0; g < keys.size(); g++) {
            List<Tree.Part> parts = new ArrayList<>();
            parts.add(new Tree.Part("by", keys.get(g)));
            for (Tree.Part p : plan.subList(1, plan.size())) {
                parts.add(new Tree.Part(p.name(), worked(((Tree.Doc) p.value()).parts().get(0), groups.get(g))));
            }
            made.add(new Tree.Doc(parts));
        }
        return made;
    }

    private static void checkWork(Tree.Part p) {
        need(plain(p.name()) && p.value() instanceof Tree.Doc d && d.parts().size() == 1, 2);
        Tree.Part w = ((Tree.Doc) p.value()).parts().get(0);
        if (w.name().equals("$count")) {
            need(w.value() == Tree.None.NOTHING, 2);
            return;
        }
        need(List.of("$sum", "$min", "$max", "$first", "$last", "$push", "$addToSet").contains(w.name()), 2);
        checkExpression(w.value());
    }

    private static Tree.Value orNothing(Tree.Value v) {
        return v == Tree.None.MISSING ? Tree.None.NOTHING : v;
    }

    private static Tree.Value worked(Tree.Part w, List<Tree.Doc> group) {
        if (w.name().equals("$count")) return new Tree.Num(18, group.size());
        if (w.name().equals("$first")) return orNothing(evaluate(w.value(), group.get(0)));
        if (w.name().equals("$last")) return orNothing(evaluate(w.value(), group.get(group.size() - 1)));
        List<Tree.Value> values = new ArrayList<>();
        BigInteger sum = BigInteger.ZERO;
        Tree.Value least = null;
        Tree.Value greatest = null;
        List<Tree.Value> set = new ArrayList<>();
        for (Tree.Doc d : group) {
            Tree.Value v = evaluate(w.value(), d);
            if (v == Tree.None.MISSING) continue;
            values.add(v);
            if (v instanceof Tree.Num n) sum = sum.add(BigInteger.valueOf(n.value()));
            if (least == null || Tree.compare(v, least) < 0) least = v;
            if (greatest == null || Tree.compare(v, greatest) > 0) greatest = v;
            if (set.stream().noneMatch(s -> Tree.compare(s, v) == 0)) set.add(v);
        }
        switch (w.name()) {
            case "$sum":
                need(sum.bitLength() < 64, 4);
                return new Tree.Num(18, sum.longValue());
            case "$min": return least == null ? Tree.None.NOTHING : least;
            case "$max": return greatest == null ? Tree.None.NOTHING : greatest;
            case "$push": return new Tree.Row(values);
            default: return new Tree.Row(set);
        }
    }

    private List<Tree.Doc> sort(Tree.Value v) {
        need(v instanceof Tree.Doc d && d.parts().size() >= 1 && d.parts().size() <= 4, 2);
        List<Tree.Part> plan = ((Tree.Doc) v).parts();
        for (Tree.Part p : plan) {
            need(p.value() instanceof Tree.Num n && (n.value() == 1 || n.value() == -1), 2);
            path(p.name());
        }
        List<Tree.Doc> made = new ArrayList<>(belts.get(0));
        made.sort((a, b) -> {
            for (Tree.Part p : plan) {
                boolean up = ((Tree.Num) p.value()).value() == 1;
                Tree.Value x = outermost(a, path(p.name()), up);
                Tree.Value y = outermost(b, path(p.name()), up);
                int c = up ? Tree.compare(x, y) : Tree.compare(y, x);
                if (c != 0) return c;
            }
            return 0;
        });
        return made;
    }

    private static Tree.Value outermost(Tree.Doc d, String[] steps, boolean least) {
        List<Tree.Value> leaves = new ArrayList<>();
        leaves(d, steps, 0, leaves);
        leaves.sort(Tree::compare);
        if (leaves.isEmpty()) return Tree.None.MISSING;
        return leaves.get(least ? 0 : leaves.size() - 1);
    }

    private int firstOnes(Tree.Value v) {
        need(v instanceof Tree.Num n && n.value() >= 0, 2);
        return (int) Math.min(((Tree.Num) v).value(), belts.get(0).size());
    }

    private List<Tree.Doc> lookup(Tree.Value v) {
        need(v instanceof Tree.Doc d && d.parts().size() == 3, 2);
        List<Tree.Part> plan = ((Tree.Doc) v).parts();
        String[] names = {"here", "there", "as"};
        String[] texts = new String[3];
        for (int i = 0; i < 3; i++) {
            need(plan.get(i).name().equals(names[i]) && plan.get(i).value() instanceof Tree.Text, 2);
            texts[i] = ((Tree.Text) plan.get(i).value()).bytes();
        }
        need(plain(texts[2]), 2);
        String[] here = path(texts[0]);
        String[] there = path(texts[1]);
        List<Tree.Doc> made = new ArrayList<>();
        for (Tree.Doc d : belts.get(0)) {
            List<Tree.Value> row = new ArrayList<>();
            for (Tree.Doc other : belts.get(1)) {
                if (meet(sought(d, here), sought(other, there))) row.add(other);
            }
            made.add(with(d, texts[2], new Tree.Row(row)));
        }
        return made;
    }

    private static List<Tree.Value> sought(Tree.Doc d, String[] steps) {
        List<Tree.Value> leaves = new ArrayList<>();
        leaves(d, steps, 0, leaves);
        if (leaves.isEmpty()) leaves.add(Tree.None.NOTHING);
        leaves.replaceAll(Model::orNothing);
        return leaves;
    }

    private static boolean meet(List<Tree.Value> some, List<Tree.Value> others) {
        for (Tree.Value x : some) {
            for (Tree.Value y : others) {
                if (Tree.compare(x, y) == 0) return true;
            }
        }
        return false;
    }

    private static Tree.Doc with(Tree.Doc d, String name, Tree.Value v) {
        List<Tree.Part> parts = new ArrayList<>();
        boolean done = false;
        for (Tree.Part p : d.parts()) {
            boolean own = p.name().equals(name);
            parts.add(own ? new Tree.Part(name, v) : p);
            done |= own;
        }
        if (!done) parts.add(new Tree.Part(name, v));
        return new Tree.Doc(parts);
    }
}
