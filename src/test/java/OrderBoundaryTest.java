/** ORDER: pairs of values that are next to each other, seen by every stage that compares. */
public final class OrderBoundaryTest extends Bench {
    private static final String LEAST = "-9223372036854775808L";
    private static final String MOST = "9223372036854775807L";

    public static void main(String[] args) {
        missing();
        classes();
        classesInside();
        numbers();
        sameNumbers();
        texts();
        documentsByClass();
        documentsByName();
        documentsByValue();
        rows();
        endingFirst();
        truths();
        sameDocumentsAndRows();
        deepOnes();
        longOnes();
        end("each boundary of ORDER holds");
    }

    // ---- checks

    /** The first value is less than the second one, in every stage that compares. */
    private static void less(String a, String b) {
        String what = a + " less than " + b;
        String two = "{d:{v:" + a + "}} | {d:{v:" + b + "}}";
        String turned = "{d:{v:" + b + "}} | {d:{v:" + a + "}}";
        done(two, "{$sort:{d:1}}", two);
        done(turned, "{$sort:{d:1}}", two);
        done(two, "{$sort:{d:-1}}", turned);
        done(turned, "{$sort:{d:-1}}", turned);
        String[] values = {a, b};
        for (int i = 0; i < 2; i++) {
            String docs = "{v:" + values[i] + "} | {v:" + values[1 - i] + "}";
            done(docs, "{$group:{by:1, x:{$min:\"$v\"}, y:{$max:\"$v\"}}}", "{by:1, x:" + a + ", y:" + b + "}");
            done(docs, "{$group:{by:\"$v\"}}", "{by:" + values[i] + "} | {by:" + values[1 - i] + "}");
            done(docs, "{$group:{by:1, x:{$addToSet:\"$v\"}}}", "{by:1, x:[" + values[i] + ", " + values[1 - i] + "]}");
            due(what + " and not found", found(values[i], values[1 - i]), false);
        }
    }

    /** Neither is less: one group, the first one of them, found, and sorted as they stood. */
    private static void same(String a, String b) {
        String[] values = {a, b};
        for (int i = 0; i < 2; i++) {
            String one = values[i];
            String other = values[1 - i];
            String docs = "{v:" + one + "} | {v:" + other + "}";
            String nested = "{d:{v:" + one + "}} | {d:{v:" + other + "}}";
            done(nested, "{$sort:{d:1}}", nested);
            done(nested, "{$sort:{d:-1}}", nested);
            done(docs, "{$group:{by:\"$v\", n:{$count:null}}}", "{by:" + one + ", n:2L}");
            done(docs, "{$group:{by:1, x:{$min:\"$v\"}, y:{$max:\"$v\"}}}", "{by:1, x:" + one + ", y:" + one + "}");
            done(docs, "{$group:{by:1, x:{$addToSet:\"$v\"}}}", "{by:1, x:[" + one + "]}");
            due(one + " found as " + other, found(one, other), true);
            // What lies around them is nothing to them.
            done("{i:1, v:" + one + "} | {v:" + other + ", w:7, x:[{}]}", "{$group:{by:\"$v\", n:{$count:null}}}",
                "{by:" + one + ", n:2L}");
            Run x = with("{i:1, v:" + one + "}", "{v:" + other + ", w:7, x:[{}]}");
            due("lookup", stage(x, "{$lookup:{here:\"v\", there:\"v\", as:\"o\"}}"), 1);
            due(one + " found as " + other + " among others", show(x, 0).endsWith("o:[{v:" + other + ", w:7, x:[{}]}]}"), true);
        }
    }

    private static boolean found(String here, String there) {
        Run x = with("{d:{v:" + here + "}}", "{e:{v:" + there + "}}");
        due("lookup", stage(x, "{$lookup:{here:\"d\", there:\"e\", as:\"o\"}}"), 1);
        return !show(x, 0).endsWith("o:[]}");
    }

    private static void eachLess(String... values) {
        for (int i = 0; i + 1 < values.length; i++) {
            less(values[i], values[i + 1]);
        }
    }

    // ---- classes

    private static void missing() {
        says("MISSING (0) is less than NOTHING (1)");
        done("{v:null} | {}", "{$sort:{v:1}}", "{} | {v:null}");
        done("{} | {v:null}", "{$sort:{v:1}}", "{} | {v:null}");
        done("{v:null} | {}", "{$sort:{v:-1}}", "{v:null} | {}");
        done("{} | {v:null}", "{$sort:{v:-1}}", "{v:null} | {}");
        done("{w:1} | {} | {w:2}", "{$sort:{v:1}}", "{w:1} | {} | {w:2}");
        done("{w:1} | {} | {w:2}", "{$sort:{v:-1}}", "{w:1} | {} | {w:2}");
    }

    private static void classes() {
        says("that less than numbers (2, of both kinds), these less than texts (3), documents (4), rows (5), truths (6)");
        eachLess("null", LEAST);
        eachLess("null", "-2147483648");
        eachLess("null", "0");
        eachLess(MOST, "\"\"");
        eachLess("2147483647", "\"\"");
        eachLess("\"\u00f4\u008f\u00bf\u00bf\"", "{}");
        eachLess("{z:true}", "[]");
        eachLess("[true, true]", "false");
        String[] one = {"null", "0", "\"\"", "{}", "[]", "false"};
        for (int i = 0; i < one.length; i++) {
            for (int j = i + 1; j < one.length; j++) {
                less(one[i], one[j]);
            }
        }
    }

    private static void classesInside() {
        says("documents element by element: by the class of the value ..; rows item by item");
        eachLess("{a:null}", "{a:" + LEAST + "}", "{a:" + MOST + "}", "{a:\"\"}", "{a:{}}", "{a:[]}", "{a:false}");
        eachLess("[null]", "[" + LEAST + "]", "[" + MOST + "]", "[\"\"]", "[{}]", "[[]]", "[false]");
    }

    // ---- numbers

    private static void numbers() {
        says("numbers by value");
        eachLess(LEAST, "-9223372036854775807L", "-4294967297L", "-4294967296L", "-4294967295L", "-2147483649L", "-2147483648",
            "-2147483647L", "-65536", "-256L", "-255", "-129", "-128L", "-1", "0L", "1", "127", "128L", "255", "256", "65535L",
            "65536", "2147483646L", "2147483647", "2147483648L", "4294967295L", "4294967296L", "4294967297L",
            "9223372036854775806L", MOST);
        less(LEAST, MOST);
        less("-1", "4294967295L");
        less("0", "4294967296L");
        less("-2147483648", "2147483648L");
    }

    private static void sameNumbers() {
        says("Two are the SAME when neither is less (so are numbers of both kinds with one value).");
        for (String n : new String[] {"0", "1", "-1", "255", "256", "65536", "2147483647", "-2147483648"}) {
            same(n, n + "L");
            same(n, n);
            same(n + "L", n + "L");
        }
        same(LEAST, LEAST);
        same(MOST, MOST);
    }

    // ---- texts

    private static void texts() {
        says("texts byte by byte without sign, a text less than one that it begins");
        eachLess("\"\"", "\"\0\"", "\"\0\0\"", "\"\0a\"", "\"\1\"", "\"A\"", "\"a\"", "\"a\0\"", "\"a\1\"", "\"aa\"", "\"ab\"",
            "\"b\"", "\"\u007f\"", "\"\u00c2\u0080\"", "\"\u00c2\u0081\"", "\"\u00df\u00bf\"", "\"\u00e0\u00a0\u0080\"",
            "\"\u00ef\u00bf\u00bf\"", "\"\u00f0\u0090\u0080\u0080\"", "\"\u00f4\u008f\u00bf\u00bf\"");
        less(text(255), text(256));
        less(text(256), "\"" + "x".repeat(255) + "y\"");
        same("\"\"", "\"\"");
        same("\"a\0b\"", "\"a\0b\"");
        less("\"a\0b\"", "\"a\0c\"");
        less("\"10\"", "\"9\"");
    }

    // ---- documents

    private static void documentsByClass() {
        says("documents element by element: by the class of the value, then by the name ..");
        less("{b:1}", "{a:\"\"}");
        less("{b:null}", "{a:1}");
        less("{c:null, b:1}", "{c:null, a:\"\"}");
        less("{b:{z:true}}", "{a:[]}");
        less("{b:[true]}", "{a:false}");
    }

    private static void documentsByName() {
        says("then by the name (as texts), then by the value");
        eachLess("{\"\":9}", "{\"\1\":8}", "{A:7}", "{a:6}", "{\"a\1\":5}", "{aa:4}", "{b:3}", "{\"\u007f\":2}",
            "{\"\u00c2\u0080\":1}", "{\"\u00f4\u008f\u00bf\u00bf\":0}");
        less("{a:1, b:2}", "{a:1, c:1}");
        less("{a:\"z\"}", "{b:\"a\"}");
        less("{a:null}", "{b:null}");
        less("{a:{z:1}}", "{b:{}}");
    }

    private static void documentsByValue() {
        says("then by the value");
        eachLess("{a:1}", "{a:2L}", "{a:3}");
        less("{a:1, b:9}", "{a:2, b:0}");
        less("{a:1, b:9}", "{a:2}");
        less("{a:1, b:1}", "{a:1, b:2}");
        less("{a:{b:1}}", "{a:{b:2}}");
        less("{a:[1]}", "{a:[2]}");
        less("{a:\"\"}", "{a:\"\0\"}");
        less("{a:false}", "{a:true}");
        less("{a:1, b:2}", "{b:2, a:1}");
    }

    // ---- rows

    private static void rows() {
        says("rows item by item");
        eachLess("[1]", "[2L]", "[3]");
        less("[1, 9]", "[2, 0]");
        less("[1, 9]", "[2]");
        less("[1, 1]", "[1, 2]");
        less("[[1]]", "[[2]]");
        less("[{a:1}]", "[{b:0}]");
        // Item 10 is behind item 9, though its name as a text would be ahead of 2.
        less("[0, 1, 2, 3, 4, 5, 6, 7, 8, 9, 10]", "[0, 1, 3, 3, 4, 5, 6, 7, 8, 9, 0]");
        less("[0, 1, 2, 3, 4, 5, 6, 7, 8, 9, 10]", "[0, 1, 2, 3, 4, 5, 6, 7, 8, 9, 11]");
    }

    private static void endingFirst() {
        says("a document or row that ends first is less");
        eachLess("{}", "{a:null}", "{a:null, b:null}");
        eachLess("{a:1}", "{a:1, b:null}", "{a:1, b:null, c:null}");
        eachLess("[]", "[null]", "[null, null]");
        eachLess("[1]", "[1, null]", "[1, null, null]");
        less("{a:{}}", "{a:{b:null}}");
        less("[[]]", "[[null]]");
        less("[[], true]", "[[null]]");
        less("{a:{}, b:true}", "{a:{b:null}}");
        less("[0, 1, 2, 3, 4, 5, 6, 7, 8, 9]", "[0, 1, 2, 3, 4, 5, 6, 7, 8, 9, null]");
    }

    private static void truths() {
        says("a truth 0 less than 1");
        less("false", "true");
        same("false", "false");
        same("true", "true");
        same("null", "null");
    }

    private static void sameDocumentsAndRows() {
        says("Two are the SAME when neither is less");
        same("{}", "{}");
        same("[]", "[]");
        same("{a:1, b:\"x\"}", "{a:1L, b:\"x\"}");
        same("[1, 2L, [3]]", "[1L, 2, [3L]]");
        same("{a:[{b:1}, -1]}", "{a:[{b:1L}, -1L]}");
        same("{a:[null, true, {}]}", "{a:[null, true, {}]}");
        same("[-2147483648]", "[-2147483648L]");
        less("[-1]", "[4294967295L]");
        less("{a:1}", "{a:1, b:1}");
    }

    private static void deepOnes() {
        says("documents element by element; rows item by item");
        // As deep as they may be where a row of found documents lies around them.
        String deep = nested(12, "{", "a:", "#", "}");
        less(deep.replace("#", "1"), deep.replace("#", "2"));
        less(deep.replace("#", "2147483647"), deep.replace("#", "2147483648L"));
        same(deep.replace("#", "1"), deep.replace("#", "1L"));
        String rows = nested(12, "[", "", "#", "]");
        less(rows.replace("#", "1"), rows.replace("#", "2"));
        less(rows.replace("#", "1"), rows.replace("#", "1, null"));
        same(rows.replace("#", "1"), rows.replace("#", "1L"));
        // As deep as they may be at all.
        String[] deepest = {nested(15, "{", "a:", "#", "}"), nested(15, "[", "", "#", "]")};
        for (String d : deepest) {
            String one = "{v:" + d.replace("#", "1") + "}";
            String two = "{v:" + d.replace("#", "2") + "}";
            String alsoTwo = "{v:" + d.replace("#", "2L") + "}";
            done(two + " | " + one + " | " + alsoTwo, "{$sort:{v:1}}", one + " | " + two + " | " + alsoTwo);
            done(one + " | " + two + " | " + alsoTwo, "{$sort:{v:-1}}", two + " | " + alsoTwo + " | " + one);
            done(one + " | " + two + " | " + alsoTwo, "{$group:{by:\"$v\", n:{$count:null}}}",
                one.replace("{v:", "{by:").replaceFirst("}$", ", n:1L}") + " | "
                + two.replace("{v:", "{by:").replaceFirst("}$", ", n:2L}"));
        }
    }

    private static void longOnes() {
        says("documents element by element; rows item by item; one that ends first is less");
        // Different in the last element or item alone, or by having one more.
        for (int count : new int[] {5, 9, 17, 100, 250}) {
            String nulls = "null, ".repeat(count);
            String parts = elements(count) + ", ";
            String[][] pairs = {{"{v:[" + nulls + "1]}", "{v:[" + nulls + "2]}"},
                {"{v:[" + nulls + "null]}", "{v:[" + nulls + "null, null]}"},
                {"{v:{" + parts + "z:1}}", "{v:{" + parts + "z:2}}"},
                {"{v:{" + parts + "y:2}}", "{v:{" + parts + "z:1}}"},
                {"{v:{" + parts + "z:null}}", "{v:{" + parts + "z:null, zz:null}}"}};
            for (String[] pair : pairs) {
                done(pair[1] + " | " + pair[0], "{$sort:{v:-1}}", pair[1] + " | " + pair[0]);
                done(pair[0] + " | " + pair[1], "{$sort:{v:-1}}", pair[1] + " | " + pair[0]);
                Run x = with(pair[0] + " | " + pair[1] + " | " + pair[0], "");
                due("two keys", stage(x, "{$group:{by:\"$v\", n:{$count:null}}}"), 2);
                // A document with both of the longest ones would have too many bytes.
                if (count <= 100) {
                    due("found", found(pair[0], pair[0]), true);
                    due("not found", found(pair[0], pair[1]), false);
                    due("not found", found(pair[1], pair[0]), false);
                }
            }
        }
    }
}
