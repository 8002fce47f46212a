import java.util.ArrayList;
import java.util.Arrays;
import java.util.List;

/** What the tests by hand share: documents put and stages done by their notation, and what is due compared. */
abstract class Bench {
    /** Numbers that are no belt, no kind of many, no document of a belt that has but one or two. */
    static final int[] NO_NUMBERS = {-1, 2, 3, 255, 256, 65536, -256, Integer.MIN_VALUE, Integer.MAX_VALUE};

    private static int wrong;
    private static String sentence = "";

    /** The sentence of the document that the checks behind it are for. */
    static void says(String words) {
        sentence = words;
    }

    static void end(String right) {
        System.out.println(wrong == 0 ? right : wrong + " answers are wrong");
        if (wrong != 0) {
            System.exit(1);
        }
    }

    static void due(String what, Object got, Object want) {
        if (!got.equals(want)) {
            wrong++;
            String of = sentence.isEmpty() ? "" : "[" + sentence + "] ";
            System.out.println(of + shortened(what) + ": answered " + shortened(got) + ", due is " + shortened(want));
        }
    }

    private static String shortened(Object o) {
        String text = o.toString();
        return text.length() > 300 ? text.substring(0, 300) + ".." : text;
    }

    static void dueBytes(String what, byte[] got, byte[] want) {
        due(what, Arrays.toString(got), Arrays.toString(want));
    }

    // ---- stages

    static void done(String belt0, String stage, String due) {
        found(belt0, "", stage, due);
    }

    static void found(String belt0, String belt1, String stage, String due) {
        Run x = with(belt0, belt1);
        int answer = stage(x, stage);
        due(stage + " of " + belt0, show(x, 0), due);
        due(stage + " of " + belt0, answer, x.many(0, 0));
        due("belt 1 stays", show(x, 1), belt1);
        dueEmptyTape(x, stage);
    }

    static void fault(int number, String belt0, String stage) {
        fault(number, belt0, "{z:9}", stage);
    }

    static void fault(int number, String belt0, String belt1, String stage) {
        refuse(with(belt0, belt1), number, stage);
    }

    /** The fault is answered, and what can be read of the belts is what it was. */
    static void refuse(Run x, int number, String stage) {
        String before0 = show(x, 0);
        String before1 = show(x, 1);
        int bytes = x.many(0, 1);
        due(stage, stage(x, stage), number - 10);
        due("belt 0 stays: " + stage, show(x, 0), before0);
        due("belt 0 stays: " + stage, x.many(0, 1), bytes);
        due("belt 1 stays: " + stage, show(x, 1), before1);
        dueEmptyTape(x, stage);
        due("belt 0 goes on: " + stage, stage(x, "{$skip:0}"), x.many(0, 0));
        due("belt 0 goes on: " + stage, show(x, 0), before0);
    }

    static void dueEmptyTape(Run x, String after) {
        due("the tape is empty after " + after, x.put(0, 1), -2);
    }

    // ---- belts

    static Run with(String belt0, String belt1) {
        Run x = new Run();
        putAll(x, 0, belt0);
        putAll(x, 1, belt1);
        return x;
    }

    static void putAll(Run x, int belt, String documents) {
        if (!documents.isEmpty()) {
            for (String d : documents.split(" \\| ")) {
                due("put of " + d, put(x, belt, d) > 0, true);
            }
        }
    }

    static int put(Run x, int belt, String document) {
        return put(x, belt, Tree.encode(Tree.doc(document)));
    }

    static int put(Run x, int belt, byte[] bytes) {
        send(x, bytes);
        return x.put(belt, bytes.length);
    }

    static int stage(Run x, String document) {
        return stage(x, Tree.encode(Tree.doc(document)));
    }

    static int stage(Run x, byte[] bytes) {
        send(x, bytes);
        return x.stage(bytes.length);
    }

    static void send(Run x, byte[] bytes) {
        for (int i = 0; i < bytes.length; i += 20) {
            feedFrom(x, bytes, i);
        }
    }

    static int feedFrom(Run x, byte[] bytes, int from) {
        int[] n = new int[5];
        for (int i = 0; i < 20; i++) {
            n[i / 4] = n[i / 4] << 8 | (from + i < bytes.length ? bytes[from + i] & 255 : 0);
        }
        return x.feed(n[0], n[1], n[2], n[3], n[4]);
    }

    static byte[] bytes(Run x, int belt, int k) {
        byte[] b = new byte[Math.max(x.size(belt, k), 0)];
        for (int i = 0; i < b.length; i++) {
            b[i] = (byte) x.byteAt(belt, k, i);
        }
        return b;
    }

    static String show(Run x, int belt) {
        List<String> shown = new ArrayList<>();
        int many = x.many(belt, 0);
        for (int k = 0; k < many; k++) {
            Tree.Doc d = Tree.decode(bytes(x, belt, k));
            shown.add(d == null ? "no document" : Tree.show(d));
        }
        return String.join(" | ", shown);
    }

    /** So many documents {i:0, b:0}, {i:0, b:1}, .. on belt 0, by stages, as the calls would not do for so many puts. */
    static Run numbered(int count) {
        Run x = new Run();
        put(x, 0, "{i:" + numbers(10) + ", b:" + numbers(20) + "}");
        due("documents by stages", stage(x, "{$unwind:\"$i\"}"), 10);
        due("documents by stages", stage(x, "{$unwind:\"$b\"}"), 200);
        due("documents by stages", stage(x, "{$limit:" + count + "}"), count);
        return x;
    }

    // ---- notation

    /** A row of 0, 1, .. in so many items. */
    static String numbers(int count) {
        List<String> items = new ArrayList<>();
        for (int i = 0; i < count; i++) {
            items.add(Integer.toString(i));
        }
        return "[" + String.join(", ", items) + "]";
    }

    /** Elements n0:null, n1:null, .. with a comma between two of them. */
    static String elements(int count) {
        List<String> parts = new ArrayList<>();
        for (int i = 0; i < count; i++) {
            parts.add("n" + i + ":null");
        }
        return String.join(", ", parts);
    }

    static String text(int length) {
        return '"' + "x".repeat(length) + '"';
    }

    /** A document of so many bytes, 13 at least. */
    static String sized(int bytes) {
        return "{a:" + text(bytes - 13) + "}";
    }

    static String nested(int depth, String open, String name, String inmost, String close) {
        return (open + name).repeat(depth) + inmost + close.repeat(depth);
    }

    /** A document that is so deep. */
    static String deep(int depth) {
        return nested(depth, "{", "a:", "1", "}");
    }

    /** A row that is so deep. */
    static String deepRow(int depth) {
        return nested(depth, "[", "", "1", "]");
    }

    static byte[] unhex(String hex) {
        String h = hex.replace(" ", "");
        byte[] b = new byte[h.length() / 2];
        for (int i = 0; i < b.length; i++) {
            b[i] = (byte) Integer.parseInt(h.substring(2 * i, 2 * i + 2), 16);
        }
        return b;
    }
}
