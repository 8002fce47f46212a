import java.util.ArrayList;
import java.util.Arrays;
import java.util.List;

/** PATHS, their LEAVES and VALUES, and EXPRESSIONS: each sentence that names a boundary, on both sides of it. */
public final class PathBoundaryTest extends Bench {
    private static final String EIGHT = "a.b.c.d.e.f.g.h";
    /** The bytes of b:null and 0:5, as a text. */
    private static final String LIKE_AN_ELEMENT = "\"\nb\0\0200\0\5\0\0\0\"";
    private static final String[] WORKS = {"$sum", "$min", "$max", "$first", "$last", "$push", "$addToSet"};

    public static void main(String[] args) {
        steps();
        emptySteps();
        zeros();
        dollars();
        longPaths();
        eightStepsLeadToTheirValue();
        leavesBehindTheLastStep();
        leavesAtDocuments();
        leavesAtRowsByNumber();
        leavesAtRowsByOtherDigits();
        leavesAtLongRows();
        leavesAtDocumentsOfRows();
        leavesMetOften();
        asManyAsADocumentHolds();
        leavesOfOneDocumentAlone();
        noLeafAtAll();
        leavesAtOtherValues();
        withItems();
        expressions();
        valuesBehindTheLastStep();
        valuesAtDocuments();
        valuesAtRows();
        valuesAtOtherValues();
        end("each boundary of paths holds");
    }

    // ---- what is a path

    /** Every stage in which a path can stand, with this one. */
    private static List<String> stagesWith(String path) {
        List<String> stages = new ArrayList<>();
        stages.add("{$project:{x:\"$" + path + "\"}}");
        stages.add("{$project:{y:true, x:\"$" + path + "\"}}");
        stages.add("{$unwind:\"$" + path + "\"}");
        stages.add("{$group:{by:\"$" + path + "\"}}");
        for (String work : WORKS) {
            stages.add("{$group:{by:1, x:{" + work + ":\"$" + path + "\"}}}");
        }
        stages.add("{$lookup:{here:\"" + path + "\", there:\"b\", as:\"c\"}}");
        stages.add("{$lookup:{here:\"a\", there:\"" + path + "\", as:\"c\"}}");
        // A name has no 0.
        if (path.indexOf('\0') < 0) {
            stages.add("{$sort:{\"" + path + "\":1}}");
            stages.add("{$sort:{zz:1, \"" + path + "\":-1}}");
        }
        return stages;
    }

    private static void right(String path) {
        for (String stage : stagesWith(path)) {
            due("a path in " + stage, stage(with("{q:1}", "{z:9}"), stage) >= 0, true);
            due("a path in " + stage, stage(new Run(), stage), 0);
        }
    }

    private static void wrong(String path) {
        for (String stage : stagesWith(path)) {
            fault(3, "{q:1}", stage);
            fault(3, "", stage);
        }
    }

    private static void steps() {
        says("A PATH is names with a point between two of them: 1 to 8 STEPS");
        String path = "a";
        for (int n = 1; n <= 20; n++) {
            if (n <= 8) {
                right(path);
            } else {
                wrong(path);
            }
            path += "." + (char) ('a' + n);
        }
        wrong("");
        right(EIGHT);
        wrong(EIGHT + ".i");
        right("0.0.0.0.0.0.0.0");
        wrong("0.0.0.0.0.0.0.0.0");
        wrong("a.".repeat(100) + "a");
    }

    private static void emptySteps() {
        says("none of them empty");
        for (String path : new String[] {".", "..", "a.", ".a", "a..b", "a.b.", ".a.b", "a.b..c", "a...b", "a.b.c.d.e.f.g.",
                ".b.c.d.e.f.g.h", EIGHT + ".", "." + EIGHT}) {
            wrong(path);
        }
        for (String path : new String[] {" ", "a. ", " .a", "a. .b", "\1", "a.\1"}) {
            right(path);
        }
    }

    private static void zeros() {
        says("of right UTF-8 without a 0");
        for (String path : new String[] {"\0", "a\0", "\0a", "a\0b", "a.\0", "\0.a", "a.b\0", "a.\0b", "a.b.c.d.e.f.g.h\0"}) {
            wrong(path);
        }
        for (String path : new String[] {"\1", "a\1", "\177", "\u00c2\u0080", "\u00f4\u008f\u00bf\u00bf.\u00e2\u0082\u00ac"}) {
            right(path);
        }
        // A text that is no right UTF-8 is in no document.
        due("no right UTF-8", stage(new Run(), "{$unwind:\"$a\u0080\"}"), -1);
        due("no right UTF-8", stage(new Run(), "{$sort:{\"a\u00c2.\u0080\":1}}"), -1);
    }

    private static void dollars() {
        says("No step of any path of a stage begins with $ (in names of a $sort and texts of a $lookup, too: 3).");
        for (String path : new String[] {"$", "$a", "$$", "a.$", "a.$b", "$a.b", "$.a", "a.b.$c", "a.$.b", "a.b.c.d.e.f.g.$",
                "a.b.c.d.e.f.g.$h", "$a.b.c.d.e.f.g.h"}) {
            wrong(path);
        }
        for (String path : new String[] {"a$", "a$b", "a$.b$", "a.b$", " $", "#", "%", "a.#", "a.%b"}) {
            right(path);
        }
        done("{a$:{b$:[7]}}", "{$unwind:\"$a$.b$\"}", "{a$:{b$:7}}");
    }

    private static void longPaths() {
        says("1 to 8 STEPS");
        String step = "s".repeat(100);
        String eight = (step + ".").repeat(7) + step;
        right(eight);
        wrong(eight + ".s");
        right("s".repeat(1900));
        wrong("s".repeat(1900) + ".");
        String deep = nested(8, "{", step + ":", "5", "}");
        done(deep, "{$project:{x:\"$" + eight + "\"}}", "{x:5}");
        done(deep, "{$project:{x:\"$" + eight.replaceFirst("s$", "t") + "\"}}", "{}");
        done(deep, "{$project:{x:\"$" + eight.replaceFirst("s$", "") + "\"}}", "{}");
    }

    private static void eightStepsLeadToTheirValue() {
        says("1 to 8 STEPS");
        String five = "{a:{b:{c:{d:{e:{f:{g:{h:5}}}}}}}}";
        String row = "{a:{b:{c:{d:{e:{f:{g:{h:[5, 6]}}}}}}}}";
        String six = "{a:{b:{c:{d:{e:{f:{g:{h:6}}}}}}}}";
        done(five, "{$project:{x:\"$" + EIGHT + "\"}}", "{x:5}");
        done(five, "{$project:{x:\"$a.b.c.d.e.f.g\"}}", "{x:{h:5}}");
        done(five, "{$group:{by:\"$" + EIGHT + "\", x:{$sum:\"$" + EIGHT + "\"}}}", "{by:5, x:5L}");
        done(row, "{$unwind:\"$" + EIGHT + "\"}", five + " | " + six);
        done(six + " | " + five, "{$sort:{\"" + EIGHT + "\":1}}", five + " | " + six);
        found("{k:5}", five + " | " + six, "{$lookup:{here:\"k\", there:\"" + EIGHT + "\", as:\"o\"}}", "{k:5, o:[" + five + "]}");
        found(six, "{k:5} | {k:6}", "{$lookup:{here:\"" + EIGHT + "\", there:\"k\", as:\"o\"}}",
            six.replaceFirst("}$", ", o:[{k:6}]}"));
        // Rows on the way: eight of them have a document of their own each.
        String rows = nested(7, "{", "a:[", "{a:5}", "]}");
        done(rows, "{$project:{x:\"$a.a.a.a.a.a.a.a\"}}", "{x:[[[[[[[5]]]]]]]}");
        sorted(rows, "a.a.a.a.a.a.a.a", "5", "5");
        sorted(rows, "a.0.a.0.a.0.a.0", null, "{a:[{a:[{a:[{a:5}]}]}]}");
        leaves("{a:[[[[[[[5]]]]]]]}", "a.0.0.0.0.0.0.0", "5");
    }

    // ---- LEAVES, by what $lookup finds and $sort takes

    private static final String[] OTHERS = {"null", "0", "1", "2", "3", "4", "5", "6", "7", "8", "9", "10", "\"\"", "\"x\"", "{}",
        "{b:1}", "true", "false"};

    /** These values, and no others that are no rows, are leaves WITH ITEMS (no leaf at all, or MISSING: null). */
    private static void leaves(String document, String path, String... due) {
        Run x = with("", document);
        List<String> asked = new ArrayList<>(Arrays.asList(OTHERS));
        for (String d : due) {
            if (!asked.contains(d)) {
                asked.add(d);
            }
        }
        for (String v : asked) {
            put(x, 0, "{k:" + v + "}");
        }
        String stage = "{$lookup:{here:\"k\", there:\"" + path + "\", as:\"o\"}}";
        due(stage, stage(x, stage), asked.size());
        for (int k = 0; k < asked.size(); k++) {
            boolean is = ((Tree.Row) Tree.decode(bytes(x, 0, k)).get("o")).items().size() == 1;
            due(asked.get(k) + " as a leaf of " + path + " at " + document, is, Arrays.asList(due).contains(asked.get(k)));
        }
        for (String v : asked) {
            Run y = with(document, "{k:" + v + "}");
            due("lookup", stage(y, "{$lookup:{here:\"" + path + "\", there:\"k\", as:\"o\"}}"), 1);
            boolean is = ((Tree.Row) Tree.decode(bytes(y, 0, 0)).get("o")).items().size() == 1;
            due(v + " as a leaf of " + path + " here at " + document, is, Arrays.asList(due).contains(v));
        }
    }

    /** What $sort takes for a document; null for MISSING. */
    private static void sorted(String document, String path, String least, String greatest) {
        sameKey(document, path, "1", least);
        sameKey(document, path, "-1", greatest);
    }

    /** Beside a document with that leaf alone it stays as it stood, on either side. */
    private static void sameKey(String document, String path, String sign, String key) {
        String d = Tree.show(Tree.doc(document));
        String other = "{\"" + path.replace(".", "\":{\"") + "\":" + key + "}".repeat(path.split("\\.").length);
        String e = key == null ? "{}" : Tree.show(Tree.doc(other));
        String stage = "{$sort:{\"" + path + "\":" + sign + "}}";
        done(d + " | " + e, stage, d + " | " + e);
        done(e + " | " + d, stage, e + " | " + d);
    }

    private static void leavesBehindTheLastStep() {
        says("The LEAVES of a path at a value: behind the last step the value itself.");
        for (String v : new String[] {"null", "0", "5", "7L", "\"\"", "\"x\"", "{}", "{b:1}", "true", "false"}) {
            sorted("{a:" + v + "}", "a", v, v);
            sorted("{a:{b:" + v + "}}", "a.b", v, v);
            if (!v.endsWith("L")) {
                leaves("{a:" + v + "}", "a", v);
                leaves("{a:{b:" + v + "}}", "a.b", v);
            }
        }
    }

    private static void leavesAtDocuments() {
        says("At a document a step takes the element of that name .. if there is none, one leaf MISSING.");
        leaves("{a:5}", "b", "null");
        sorted("{a:5}", "b", null, null);
        sorted("{a:{c:5}}", "a.b", null, null);
        sorted("{}", "a", null, null);
        sorted("{}", "a.b.c", null, null);
        sorted("{aa:5, A:6}", "a", null, null);
        sorted("{a:5}", "aa", null, null);
        sorted("{\"0\":5}", "0", "5", "5");
        sorted("{\"00\":5}", "00", "5", "5");
        sorted("{\"01\":5}", "1", null, null);
        sorted("{\"\":5, a:{\"\":5}}", "a.b", null, null);
        leaves("{a:{b:{c:7}}}", "a.b.c", "7");
    }

    private static void leavesAtRowsByNumber() {
        says("At a row a step that is decimal digits (0, ..) takes the item of that number, if there is one");
        String row = "{a:[10, 9, 8]}";
        leaves(row, "a.0", "10");
        leaves(row, "a.1", "9");
        leaves(row, "a.2", "8");
        leaves(row, "a.3", "null");
        leaves("{a:[]}", "a.0", "null");
        leaves("{a:[5]}", "a.0", "5");
        leaves("{a:[5]}", "a.1", "null");
        sorted(row, "a.2", "8", "8");
        sorted(row, "a.3", null, null);
        sorted("{a:[null]}", "a.0", "null", "null");
        // Where the others go on.
        leaves("{a:[{b:5}]}", "a.0.b", "5", "null");
        leaves("{a:[[7, 8], [9]]}", "a.0.1", "8");
        leaves("{a:[[7, 8], [9]]}", "a.1.0", "9");
        leaves("{a:[[7, 8], [9]]}", "a.1.1", "null");
        sorted("{a:[[7, 8], [9]]}", "a.1.1", null, null);
        sorted("{a:[5]}", "a.0.b", null, null);
    }

    private static void leavesAtRowsByOtherDigits() {
        says("(0, or without a 0 ahead)");
        String row = "{a:[10, 9, 8, 7, 6, 5, 4, 3, 2, 1, 0, \"x\"]}";
        leaves(row, "a.0", "10");
        leaves(row, "a.9", "1");
        leaves(row, "a.10", "0");
        leaves(row, "a.11", "\"x\"");
        for (String step : new String[] {"00", "01", "000", "09", "010", "-1", "-0", "+1", " 1", "1 ", "1x", "x1", "0x1", "1e0",
                "/", ":", "1:", "\u00d9\u00a1", "12", "100", "9999", "10000", "65536", "65537", "2147483647", "2147483648",
                "4294967296", "4294967297", "4294967306", "18446744073709551616", "18446744073709551617",
                "99999999999999999999999999999999999999999"}) {
            leaves(row, "a." + step, "null");
            sorted(row, "a." + step, null, null);
            // As the name of an element it is as good as any.
            leaves("{a:[{\"" + step + "\":5}]}", "a." + step, "5");
        }
    }

    private static void leavesAtLongRows() {
        says("takes the item of that number, if there is one");
        StringBuilder items = new StringBuilder("null");
        for (int i = 1; i < 300; i++) {
            items.append(i == 99 ? ", 3" : i == 100 ? ", 5" : i == 199 ? ", 7" : i == 299 ? ", 9" : ", null");
        }
        String row = "{a:[" + items + "]}";
        String[] steps = {"98", "null", "99", "3", "100", "5", "101", "null", "199", "7", "299", "9", "300", null, "1299", null};
        for (int i = 0; i < steps.length; i += 2) {
            sorted(row, "a." + steps[i], steps[i + 1], steps[i + 1]);
        }
    }

    private static void leavesAtDocumentsOfRows() {
        says("and then, with the step itself still to be taken, it goes on at each item that is a document, in order");
        leaves("{a:[{b:1}, {b:2}, {b:3}]}", "a.b", "1", "2", "3");
        sorted("{a:[{b:2}, {b:3}, {b:1}]}", "a.b", "1", "3");
        leaves("{a:[{b:1}, {c:2}]}", "a.b", "1", "null");
        sorted("{a:[{b:1}, {c:2}]}", "a.b", null, "1");
        leaves("{a:[{b:1}, 2, \"x\", null, [{b:3}], true]}", "a.b", "1");
        sorted("{a:[{b:1}, 2, \"x\", null, [{b:3}], true]}", "a.b", "1", "1");
        // By the number, and by the name of each.
        leaves("{a:[{\"0\":5}, {\"0\":6}, {\"1\":7}]}", "a.0", "5", "6", "null", "{\"0\":5}");
        leaves("{a:[{\"0\":5}, {\"0\":6}, {\"1\":7}]}", "a.1", "7", "null", "{\"0\":6}");
        leaves("{a:[{\"0\":5}, {\"0\":6}]}", "a.1", "null", "{\"0\":6}");
        leaves("{a:[{\"0\":5}, {\"0\":6}]}", "a.2", "null");
        leaves("{a:[{\"2\":5}, {\"2\":6}]}", "a.2", "5", "6");
        leaves("{a:[{b:[{c:1}, {c:2}]}, {b:{c:3}}]}", "a.b.c", "1", "2", "3");
        leaves("{a:[{b:[{c:1}, {c:2}]}, {b:{c:3}}]}", "a.0.b.1.c", "2", "null");
        leaves("{a:[{b:[4, 5]}, {b:[6]}]}", "a.b.0", "4", "6");
        leaves("{a:[{b:[4, 5]}, {b:[6]}]}", "a.b.1", "5");
        sorted("{a:[{b:[4, 5]}, {b:[6]}]}", "a.b.1", "5", "5");
    }

    private static void leavesMetOften() {
        says("Leaves come in the order in which they are met; one value may be met more than once.");
        // A row of 120 items that is met ten times, and behind it all a leaf that is met once.
        String row = "[" + "3, ".repeat(119) + "3]";
        String often = "[{0:[{0:[{0:[{0:[{0:" + row + "}]}]}]}]}";
        String once = nested(7, "{", "0:", "true", "}");
        String document = "{0:" + often + ", " + once + "]}";
        String path = "0.0.0.0.0.0.0.0";
        sameKey(document, path, "-1", "true");
        Run x = with("{k:true} | {k:3} | {k:4} | {k:false}", document);
        due("lookup", stage(x, "{$lookup:{here:\"k\", there:\"" + path + "\", as:\"o\"}}"), 4);
        due("the leaf that is met last", x.size(0, 0) > 1000, true);
        due("the leaf that is met often", x.size(0, 1) > 1000, true);
        due("no leaf", x.size(0, 2), 20);
        due("no leaf", x.size(0, 3), 17);
    }

    private static void asManyAsADocumentHolds() {
        says("At a document a step takes the element of that name .. it goes on at each item .. its items");
        for (int count : new int[] {4, 5, 8, 9, 16, 17, 100, 199, 200, 201, 300}) {
            // The element behind so many others.
            String parts = elements(count);
            String document = "{" + parts + ", a:5}";
            done(document, "{$project:{a:true}}", "{a:5}");
            done(document, "{$project:{v:\"$a\"}}", "{v:5}");
            done("{x:{" + parts + ", a:[5]}}", "{$project:{v:\"$x.a\"}}", "{v:[5]}");
            sorted(document, "a", "5", "5");
            sorted(document, "b", null, null);
            done("{" + parts + ", a:[5]}", "{$unwind:\"$a\"}", "{" + parts + ", a:5}");
            // The item behind so many others.
            String row = "[" + "null, ".repeat(count) + "{b:5}]";
            done("{a:" + row + "}", "{$project:{v:\"$a.b\"}}", "{v:[5]}");
            sorted("{a:" + row + "}", "a.b", "5", "5");
            sorted("{a:" + row + "}", "a." + count + ".b", null, "5");
            sorted("{a:[" + "0, ".repeat(count > 200 ? 150 : count) + "true]}", "a", "0", "true");
            sorted("{a:[" + "null, ".repeat(count) + "true]}", "a", "null", "true");
            Run x = with("{k:true} | {k:5}", "{a:[" + "null, ".repeat(count) + "true]}");
            due("lookup", stage(x, "{$lookup:{here:\"k\", there:\"a\", as:\"o\"}}"), 2);
            due("the last item", x.size(0, 0) > 30, true);
            due("no item", x.size(0, 1), 20);
            if (count < 150) {
                sorted("{a:[" + "{}, ".repeat(count) + "{b:5}]}", "a.b", null, "5");
                sorted("{a:[" + "{b:0}, ".repeat(Math.min(count, 100)) + "{b:5}]}", "a.b", "0", "5");
            }
        }
    }

    private static void leavesOfOneDocumentAlone() {
        says("The LEAVES of a path at a value");
        // What one document's leaves are is nothing to the next one: MISSING, in a row beside another leaf.
        done("{} | {a:{b:null}} | {a:[{b:1}, {}]} | {a:[{}, {b:1}], i:1}", "{$sort:{\"a.b\":1}}",
            "{} | {a:[{b:1}, {}]} | {a:[{}, {b:1}], i:1} | {a:{b:null}}");
        done("{a:[{b:1}, {}]} | {a:{b:null}} | {} | {a:[{}, {b:1}], i:1}", "{$sort:{\"a.b\":1}}",
            "{a:[{b:1}, {}]} | {} | {a:[{}, {b:1}], i:1} | {a:{b:null}}");
        found("{} | {a:[{b:1}, {}]} | {a:{b:1}}", "{k:null} | {k:1}", "{$lookup:{here:\"a.b\", there:\"k\", as:\"o\"}}",
            "{o:[{k:null}]} | {a:[{b:1}, {}], o:[{k:null}, {k:1}]} | {a:{b:1}, o:[{k:1}]}");
        found("{k:null} | {k:1}", "{} | {a:[{b:1}, {}]} | {a:{b:1}} | {a:[{b:1}, {}]}",
            "{$lookup:{here:\"k\", there:\"a.b\", as:\"o\"}}",
            "{k:null, o:[{}, {a:[{b:1}, {}]}, {a:[{b:1}, {}]}]} | {k:1, o:[{a:[{b:1}, {}]}, {a:{b:1}}, {a:[{b:1}, {}]}]}");
        // Nor is what lies behind a document an element of it: here a size of 12, which is the name \f, too.
        done("{a:1} | {b:2} | {c:3}", "{$project:{v:\"$\f\"}}", "{} | {} | {}");
        done("{a:1} | {b:2} | {c:3}", "{$sort:{\"\f\":-1}}", "{a:1} | {b:2} | {c:3}");
        done("{a:1} | {b:2} | {c:3}", "{$unwind:\"$\f\"}", "");
        done("{a:{x:1}, b:{c:2}}", "{$project:{v:\"$a.\3b\"}}", "{}");
        done("{a:[1], b:{c:2}}", "{$project:{v:\"$a.\3b\", w:\"$a.c\"}}", "{v:[], w:[]}");
    }

    private static void noLeafAtAll() {
        says("(So at a row there may be no leaf at all.)");
        for (String row : new String[] {"[]", "[1]", "[1, 2]", "[[]]", "[[{b:1}]]", "[null]", "[\"b\"]", "[true]"}) {
            leaves("{a:" + row + "}", "a.b", "null");
            sorted("{a:" + row + "}", "a.b", null, null);
        }
        sorted("{a:[{b:[]}]}", "a.b.c", null, null);
        // With one document in the row there is a leaf.
        sorted("{a:[1, {b:5}]}", "a.b", "5", "5");
        sorted("{a:[1, {}]}", "a.b", null, null);
        sorted("{a:[{b:[]}, {b:{c:5}}]}", "a.b.c", "5", "5");
    }

    private static void leavesAtOtherValues() {
        says("At any other value: MISSING.");
        for (String v : new String[] {"null", "5", "5L", "\"x\"", "\"b\"", "true", "false"}) {
            leaves("{a:" + v + "}", "a.b", "null");
            leaves("{a:" + v + "}", "a.0", "null");
            sorted("{a:" + v + "}", "a.b", null, null);
            sorted("{a:" + v + "}", "a.b.c", null, null);
            sorted("{a:[" + v + ", {b:6}]}", "a.0.b", null, null);
            sorted("{a:[{b:" + v + "}, {b:{c:6}}]}", "a.b.c", null, "6");
        }
        // A text whose bytes would be elements of a document.
        sorted("{a:" + LIKE_AN_ELEMENT + "}", "a.b", null, null);
        sorted("{a:" + LIKE_AN_ELEMENT + "}", "a.0", null, null);
    }

    private static void withItems() {
        says("WITH ITEMS: each leaf, and behind it, when it is a row, its items.");
        leaves("{a:[1, 2]}", "a", "1", "2");
        leaves("{a:[]}", "a");
        leaves("{a:[null]}", "a", "null");
        leaves("{a:[[1], 2]}", "a", "2");
        leaves("{a:{b:[1, 2]}}", "a.b", "1", "2");
        leaves("{a:{b:[1, 2]}}", "a", "{b:[1, 2]}");
        leaves("{a:[{b:[1, 2]}, {b:3}]}", "a.b", "1", "2", "3");
        leaves("{a:[[4, 5], 6]}", "a.0", "4", "5");
        sorted("{a:[3, 1, 2]}", "a", "1", "[3, 1, 2]");
        sorted("{a:[[0]]}", "a", "[[0]]", "[[0]]");
        sorted("{a:[]}", "a", "[]", "[]");
        sorted("{a:[true, false]}", "a", "[true, false]", "true");
        sorted("{a:[null]}", "a", "null", "[null]");
        // Beside one whose least leaf is [4], too, and not 4.
        sameKey("{a:[[5], [4]]}", "a", "1", "[[4]]");
        sameKey("{a:[[5], [4]]}", "a", "-1", "[[5], [4]]");
        // The row itself is one of them.
        found("{a:[1, 2]}", "{b:[[1, 2]]} | {b:[1L, 2L]} | {b:[[1, 2, 3]]} | {b:[[2, 1]]} | {b:[[[1, 2]]]}",
            "{$lookup:{here:\"a\", there:\"b\", as:\"o\"}}", "{a:[1, 2], o:[{b:[[1, 2]]}, {b:[1L, 2L]}]}");
        found("{a:[]}", "{b:[]} | {b:[[]]} | {b:[[[]]]} | {} | {b:null}",
            "{$lookup:{here:\"a\", there:\"b\", as:\"o\"}}", "{a:[], o:[{b:[]}, {b:[[]]}]}");
    }

    // ---- EXPRESSIONS and VALUES

    /** The VALUE as each stage that takes an EXPRESSION has it; null for MISSING. */
    private static void value(String document, String path, String due) {
        String e = "\"$" + path + "\"";
        expression(document, e, due);
    }

    private static void expression(String document, String e, String due) {
        String orNothing = due == null ? "null" : due;
        // Among others, of which it must not take anything: elements ahead and behind, documents ahead and behind.
        String other = "{z:[{a:{b:1}}, {b:{c:2}}]}";
        String inner = document.substring(1, document.length() - 1);
        String among = "{z:{a:1, b:{c:2}}, " + inner + (inner.isEmpty() ? "" : ", ") + "zz:[{a:1}, {b:{c:2}}]}";
        String asked = "{$project:{v:" + e + "}}";
        due(asked + " among others of " + document, shown(with(other + " | " + among + " | " + other, other), asked, 1),
            due == null ? "{}" : "{v:" + due + "}");
        done(document, "{$project:{v:" + e + "}}", due == null ? "{}" : "{v:" + due + "}");
        done(document, "{$group:{by:" + e + "}}", "{by:" + orNothing + "}");
        for (String work : new String[] {"$min", "$max", "$first", "$last"}) {
            done(document, "{$group:{by:1, v:{" + work + ":" + e + "}}}", "{by:1, v:" + orNothing + "}");
        }
        for (String work : new String[] {"$push", "$addToSet"}) {
            done(document, "{$group:{by:1, v:{" + work + ":" + e + "}}}", "{by:1, v:[" + (due == null ? "" : due) + "]}");
        }
    }

    private static String shown(Run x, String stage, int k) {
        stage(x, stage);
        return Tree.show(Tree.decode(bytes(x, 0, k)));
    }

    private static void expressions() {
        says("An EXPRESSION: a text that begins with $ and has a path behind it, its VALUE ..; any other value is itself.");
        String document = "{a:5, b:6}";
        expression(document, "\"$a\"", "5");
        for (String e : new String[] {"\"a\"", "\"\"", "\" $a\"", "\"a$\"", "\"#a\"", "\"%a\"", "\"\0$a\"", "7", "7L", "null",
                "false", "{}", "{c:\"$a\"}", "[]", "[\"$a\"]", "[{c:\"$\"}]", "{$a:\"$$\"}"}) {
            expression(document, e, e);
        }
        // A text with a $ has to have a path behind it: see dollars() and steps().
        for (String e : new String[] {"\"$\"", "\"$.\"", "\"$$a\"", "\"$a.\""}) {
            fault(3, document, "{$project:{v:" + e + "}}");
            fault(3, document, "{$group:{by:" + e + "}}");
        }
        // A TRUTH 1 is itself but in a $project.
        done(document, "{$group:{by:true, v:{$push:true}}}", "{by:true, v:[true]}");
        done(document, "{$project:{a:true, b:false, c:true}}", "{a:5, b:false}");
    }

    private static void valuesBehindTheLastStep() {
        says("The VALUE of a path at a value: behind the last step the value itself");
        for (String v : new String[] {"null", "5", "7L", "\"\"", "\"$a\"", "true", "false", "{}", "{b:{c:1}}", "[]", "[1, [2]]"}) {
            value("{a:" + v + "}", "a", v);
            value("{x:1, a:{y:2, b:" + v + ", z:3}}", "a.b", v);
        }
    }

    private static void valuesAtDocuments() {
        says("at a document that of the element of the step's name, MISSING if there is none");
        value("{a:{b:5}}", "a.b", "5");
        value("{a:{b:5}}", "a.c", null);
        value("{a:{b:5}}", "b", null);
        value("{a:{b:5}}", "aa", null);
        value("{aa:5}", "a", null);
        value("{}", "a", null);
        value("{}", "a.b", null);
        value("{a:{}}", "a.b", null);
        value("{\"0\":5}", "0", "5");
        value("{a:{\"0\":{\"1\":5}}}", "a.0.1", "5");
    }

    private static void valuesAtRows() {
        says("at a row a row of the VALUES .. of its items that are documents, what is MISSING left out");
        value("{a:[]}", "a.b", "[]");
        value("{a:[1, \"x\", null, true, [{b:1}]]}", "a.b", "[]");
        value("{a:[{}]}", "a.b", "[]");
        value("{a:[{b:1}]}", "a.b", "[1]");
        value("{a:[{b:null}]}", "a.b", "[null]");
        value("{a:[{c:0}, {b:1}, 5, {b:2L}, {c:3}, {b:[4]}]}", "a.b", "[1, 2L, [4]]");
        value("{a:[{b:{c:1}}, {b:{d:2}}, {b:3}, {b:{c:4}}]}", "a.b.c", "[1, 4]");
        value("{a:[{b:[{c:1}, {d:2}]}, {b:[]}, {b:{c:3}}, {}]}", "a.b.c", "[[1], [], 3]");
        // A row's items have no numbers here.
        value("{a:[5, 6]}", "a.0", "[]");
        value("{a:[{\"0\":7}, 6]}", "a.0", "[7]");
        value("{a:[[{b:1}]]}", "a.0.b", "[]");
        // Names of one, two and three digits.
        for (int count : new int[] {9, 10, 11, 99, 100, 101}) {
            String row = "[" + "{b:null}, ".repeat(count - 1) + "{b:null}]";
            String nulls = "[" + "null, ".repeat(count - 1) + "null]";
            done("{a:" + row + "}", "{$project:{v:\"$a.b\"}}", "{v:" + nulls + "}");
            String mixed = "[" + "{b:null}, {}, ".repeat(count - 1) + "{b:null}]";
            if (count < 99) {
                done("{a:" + mixed + "}", "{$group:{by:\"$a.b\"}}", "{by:" + nulls + "}");
            }
        }
    }

    private static void valuesAtOtherValues() {
        says("at any other one MISSING");
        for (String v : new String[] {"null", "5", "5L", "\"x\"", "\"b\"", "true", "false"}) {
            value("{a:" + v + "}", "a.b", null);
            value("{a:" + v + "}", "a.b.c", null);
            value("{a:" + v + "}", "a.0", null);
            value("{a:{b:" + v + "}}", "a.b.c", null);
            value("{a:[{b:" + v + "}]}", "a.b.c", "[]");
        }
        // A text whose bytes would be elements of a document.
        value("{a:" + LIKE_AN_ELEMENT + "}", "a.b", null);
        value("{a:{b:" + LIKE_AN_ELEMENT + "}}", "a.b.b", null);
        value("{a:[" + LIKE_AN_ELEMENT + "]}", "a.b", "[]");
        done("{a:" + LIKE_AN_ELEMENT + "}", "{$unwind:\"$a.b\"}", "");
        done("{a:" + LIKE_AN_ELEMENT + "}", "{$unwind:\"$a\"}", "{a:" + LIKE_AN_ELEMENT + "}");
    }
}
