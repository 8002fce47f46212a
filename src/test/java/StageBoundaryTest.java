import java.util.ArrayList;
import java.util.List;

/** The stages: what each asks of its value and what it does, on both sides of every boundary that is named. */
public final class StageBoundaryTest extends Bench {
    /** A value of each kind. */
    private static final String[] KINDS = {"null", "0", "1", "1L", "\"\"", "\"a\"", "\"$a\"", "{}", "{a:1}", "[]", "[1]",
        "true", "false"};
    private static final String LEAST = "-9223372036854775808L";
    private static final String MOST = "9223372036854775807L";

    public static void main(String[] args) {
        stageNames();
        stageElements();
        projectElements();
        plainNames();
        projectTruths();
        projectMissing();
        projectOfMany();
        unwindText();
        unwindThroughDocuments();
        unwindRows();
        unwindOthers();
        unwindInPlace();
        groupElements();
        groupKeys();
        groupOrder();
        groupsAreApart();
        groupOthers();
        groupCount();
        groupSums();
        groupSumsOverTheEdge();
        groupLeastAndGreatest();
        groupFirstAndLast();
        groupRows();
        sortElements();
        sortSigns();
        sortNext();
        sortAsTheyStood();
        skip();
        limit();
        skipAndLimitNumbers();
        lookupElements();
        lookupPlace();
        lookupFound();
        lookupNothing();
        lookupEachLeaf();
        lookupMany();
        end("each boundary of the stages holds");
    }

    // ---- a stage

    private static void stageNames() {
        says("1: .. its name is none of the above");
        String[] names = {"$project", "$unwind", "$group", "$sort", "$skip", "$limit", "$lookup"};
        String[] plans = {"{a:true}", "\"$a\"", "{by:1}", "{a:1}", "0", "0", "{here:\"a\", there:\"a\", as:\"o\"}"};
        for (int i = 0; i < names.length; i++) {
            due("stage " + names[i], stage(with("{a:1}", ""), "{" + names[i] + ":" + plans[i] + "}") >= 0, true);
            String name = names[i];
            for (String no : new String[] {name.substring(1), name + "s", name.substring(0, name.length() - 1), name.toUpperCase(),
                    "$" + name, " " + name, name + " ", "#" + name.substring(1), name.substring(0, name.length() - 1) + "z"}) {
                fault(1, "{a:1}", "{\"" + no + "\":" + plans[i] + "}");
            }
        }
        for (String no : new String[] {"", "$", "a", "by", "$count", "$sum", "$match", "project"}) {
            fault(1, "{a:1}", "{\"" + no + "\":{a:true}}");
        }
    }

    private static void stageElements() {
        says("1: there is not one element");
        fault(1, "{a:1}", "{}");
        done("{a:1}", "{$skip:0}", "{a:1}");
        fault(1, "{a:1}", "{$skip:0, $limit:0}");
        fault(1, "{a:1}", "{$skip:0, a:0}");
        fault(1, "{a:1}", "{a:0, $skip:0}");
        fault(1, "{a:1}", "{$skip:0, $limit:0, $unwind:\"$a\"}");
        fault(1, "", "{}");
    }

    // ---- $project

    private static void projectElements() {
        says("$project: a document with one element or more");
        for (String value : KINDS) {
            if (value.equals("{a:1}")) {
                done("{a:5}", "{$project:{a:1}}", "{a:1}");
            } else {
                fault(2, "{a:5}", "{$project:" + value + "}");
                fault(2, "", "{$project:" + value + "}");
            }
        }
        done("{a:5, b:6}", "{$project:{b:true}}", "{b:6}");
        done("{a:5, b:6}", "{$project:{b:true, a:true}}", "{b:6, a:5}");
        List<String> all = new ArrayList<>();
        for (int i = 0; i < 120; i++) {
            all.add("n" + i + ":" + i);
        }
        String many = String.join(", ", all);
        done("{a:5}", "{$project:{" + many + "}}", "{" + many + "}");
        for (int count : new int[] {4, 5, 8, 9, 16, 17, 199, 200, 201, 300}) {
            String parts = elements(count);
            done("{a:5}", "{$project:{" + parts + ", a:true}}", "{" + parts + ", a:5}");
            fault(2, "{a:5}", "{$project:{" + parts + ", $a:true}}");
            fault(3, "{a:5}", "{$project:{" + parts + ", a:\"$\"}}");
        }
    }

    private static void plainNames() {
        says("PLAIN (not empty, no point and no byte 0 in them, not beginning with $)");
        for (String no : new String[] {"", ".", "a.", ".a", "a.b", "..", "$", "$a", "$$", "$.", "ab.cd", "\u00c3\u00a9."}) {
            String q = "\"" + no + "\"";
            fault(2, "{a:1}", "{$project:{" + q + ":true}}");
            fault(2, "{a:1}", "{$project:{" + q + ":1, b:2}}");
            fault(2, "{a:1}", "{$project:{b:2, " + q + ":1}}");
            fault(2, "{a:1}", "{$group:{by:1, " + q + ":{$count:null}}}");
            fault(2, "{a:1}", "{$group:{by:1, b:{$count:null}, " + q + ":{$count:null}}}");
            fault(2, "{a:1}", "{$lookup:{here:\"a\", there:\"a\", as:" + q + "}}");
        }
        for (String no : new String[] {"\0", "a\0", "\0a", "a\0b"}) {
            fault(2, "{a:1}", "{$lookup:{here:\"a\", there:\"a\", as:\"" + no + "\"}}");
        }
        for (String yes : new String[] {"x", " ", "a$", "a$b", "#", "%", "-", "/", "#a", "%a", "-b", "0", "\1",
                "\177", "\u00c3\u00a9", "by2", "n".repeat(300)}) {
            String q = yes.matches("[\\w$.]+") ? yes : "\"" + yes + "\"";
            done("{k:1}", "{$project:{" + q + ":5}}", "{" + q + ":5}");
            done("{k:1}", "{$project:{b:2, " + q + ":5}}", "{b:2, " + q + ":5}");
            done("{k:1}", "{$group:{by:1, " + q + ":{$count:null}}}", "{by:1, " + q + ":1L}");
            done("{k:1}", "{$lookup:{here:\"k\", there:\"k\", as:\"" + yes + "\"}}", "{k:1, " + q + ":[]}");
        }
    }

    private static void projectTruths() {
        says("a TRUTH 1 as value: the document's own element of that name; otherwise an EXPRESSION");
        done("{a:5, b:{c:6}}", "{$project:{a:true, b:true}}", "{a:5, b:{c:6}}");
        done("{a:5, b:{c:6}}", "{$project:{a:false, b:true}}", "{a:false, b:{c:6}}");
        done("{a:5, b:{c:6}}", "{$project:{a:1, b:1L}}", "{a:1, b:1L}");
        done("{a:5, b:{c:6}}", "{$project:{c:true}}", "{}");
        done("{a:5, b:{c:6}}", "{$project:{b:{c:true}}}", "{b:{c:true}}");
        for (String v : KINDS) {
            done("{a:" + v + "}", "{$project:{a:true}}", "{a:" + v + "}");
        }
        // Whole names alone.
        done("{aa:1, A:2}", "{$project:{a:true}}", "{}");
        done("{a:1}", "{$project:{aa:true}}", "{}");
    }

    private static void projectMissing() {
        says("What is MISSING is left out.");
        done("{a:1} | {b:2} | {} | {a:null}", "{$project:{x:\"$a\", y:\"$b\", a:true}}",
            "{x:1, a:1} | {y:2} | {} | {x:null, a:null}");
        done("{a:1}", "{$project:{x:\"$b\"}}", "{}");
        done("{a:[1]}", "{$project:{x:\"$a.b\"}}", "{x:[]}");
    }

    private static void projectOfMany() {
        says("of each document a new one");
        Run x = numbered(200);
        due("of 200", stage(x, "{$project:{b:true}}"), 200);
        due("the last", x.byteAt(0, 199, 7), 19);
        due("the one ahead of it", x.byteAt(0, 198, 7), 18);
        due("the first", x.byteAt(0, 0, 7), 0);
        due("all", x.many(0, 1), 2400);
        done("", "{$project:{b:true}}", "");
    }

    // ---- $unwind

    private static void unwindText() {
        says("$unwind: a text, $ and a path .. (a $unwind's text without its $, too: 2)");
        for (String value : KINDS) {
            if (value.equals("\"$a\"")) {
                done("{a:5}", "{$unwind:\"$a\"}", "{a:5}");
            } else {
                fault(2, "{a:5}", "{$unwind:" + value + "}");
                fault(2, "", "{$unwind:" + value + "}");
            }
        }
        for (String no : new String[] {"", "a", "a.b", " $a", "#a", "%a", "a$", ".", "a..b", "\0$a"}) {
            fault(2, "{a:5}", "{$unwind:\"" + no + "\"}");
        }
        for (String no : new String[] {"$", "$.", "$a.", "$$a"}) {
            fault(3, "{a:5}", "{$unwind:\"" + no + "\"}");
        }
    }

    private static void unwindThroughDocuments() {
        says("which is gone through documents alone (at anything else its value is MISSING)");
        done("{a:{b:[1, 2]}}", "{$unwind:\"$a.b\"}", "{a:{b:1}} | {a:{b:2}}");
        for (String v : new String[] {"[{b:[1, 2]}]", "[[1, 2]]", "[]", "null", "5", "\"b\"", "true"}) {
            done("{a:" + v + "}", "{$unwind:\"$a.b\"}", "");
            done("{a:" + v + "}", "{$unwind:\"$a.0\"}", "");
            done("{a:{b:" + v + "}}", "{$unwind:\"$a.b.c\"}", "");
        }
        done("{a:{0:[1, 2]}}", "{$unwind:\"$a.0\"}", "{a:{0:1}} | {a:{0:2}}");
        done("{a:{c:1}}", "{$unwind:\"$a.b\"}", "");
    }

    private static void unwindRows() {
        says("when its value is a row, there is one document for each item, with that in place of the row");
        done("{a:[]}", "{$unwind:\"$a\"}", "");
        done("{a:[5]}", "{$unwind:\"$a\"}", "{a:5}");
        done("{a:[5, 6]}", "{$unwind:\"$a\"}", "{a:5} | {a:6}");
        StringBuilder due = new StringBuilder();
        StringBuilder row = new StringBuilder();
        for (String v : KINDS) {
            row.append(row.length() == 0 ? "" : ", ").append(v);
            due.append(due.length() == 0 ? "" : " | ").append("{x:1, a:").append(v).append(", y:2}");
        }
        done("{x:1, a:[" + row + "], y:2}", "{$unwind:\"$a\"}", due.toString());
        // An item that is a row stays one, and what is MISSING for others is not for an item.
        done("{a:[[1, 2], [], null]}", "{$unwind:\"$a\"}", "{a:[1, 2]} | {a:[]} | {a:null}");
        Run x = new Run();
        put(x, 0, "{a:" + numbers(200) + "}");
        due("200 items", stage(x, "{$unwind:\"$a\"}"), 200);
        for (int k : new int[] {0, 9, 10, 99, 100, 199}) {
            due("item " + k, x.byteAt(0, k, 7), k);
        }
    }

    private static void unwindOthers() {
        says("none when it is MISSING or NOTHING; otherwise the document stays");
        done("{b:1}", "{$unwind:\"$a\"}", "");
        done("{a:null}", "{$unwind:\"$a\"}", "");
        done("{}", "{$unwind:\"$a\"}", "");
        for (String v : new String[] {"0", "1L", "\"\"", "\"x\"", "{}", "{a:[1, 2]}", "true", "false"}) {
            done("{x:1, a:" + v + ", y:2}", "{$unwind:\"$a\"}", "{x:1, a:" + v + ", y:2}");
            done("{a:{b:" + v + "}}", "{$unwind:\"$a.b\"}", "{a:{b:" + v + "}}");
        }
        done("{a:0} | {a:null} | {a:[7]} | {} | {a:[]} | {a:false}", "{$unwind:\"$a\"}", "{a:0} | {a:7} | {a:false}");
    }

    private static void unwindInPlace() {
        says("with that in place of the row");
        done("{a:[1, \"xy\"], y:2}", "{$unwind:\"$a\"}", "{a:1, y:2} | {a:\"xy\", y:2}");
        done("{y:2, a:[1, \"xy\"]}", "{$unwind:\"$a\"}", "{y:2, a:1} | {y:2, a:\"xy\"}");
        done("{x:[8], a:{p:1, b:{q:[9], c:[{d:1}, null], r:2}, s:3}, y:4}", "{$unwind:\"$a.b.c\"}",
            "{x:[8], a:{p:1, b:{q:[9], c:{d:1}, r:2}, s:3}, y:4} | {x:[8], a:{p:1, b:{q:[9], c:null, r:2}, s:3}, y:4}");
        // Sizes that go over a byte: 300 bytes of text in one item, none in the other.
        String t = text(300);
        done("{a:{b:[" + t + ", 1], c:" + t + "}, d:" + t + "}", "{$unwind:\"$a.b\"}",
            "{a:{b:" + t + ", c:" + t + "}, d:" + t + "} | {a:{b:1, c:" + t + "}, d:" + t + "}");
    }

    // ---- $group

    private static void groupElements() {
        says("$group: a document, whose first element is by");
        for (String value : KINDS) {
            fault(2, "{a:5}", "{$group:" + value + "}");
            fault(2, "", "{$group:" + value + "}");
        }
        done("{a:5}", "{$group:{by:1}}", "{by:1}");
        for (String no : new String[] {"By", "b", "bye", "", "$by", "by ", "BY", "by.", "yb"}) {
            fault(2, "{a:5}", "{$group:{\"" + no + "\":1}}");
        }
        fault(2, "{a:5}", "{$group:{n:{$count:null}}}");
        fault(2, "{a:5}", "{$group:{n:{$count:null}, by:1}}");
        done("{a:5}", "{$group:{by:1, n:{$count:null}}}", "{by:1, n:1L}");
    }

    private static void groupKeys() {
        says("its KEY, MISSING being NOTHING. Documents with the SAME key are a group");
        done("{k:null} | {} | {k:null}", "{$group:{by:\"$k\", n:{$count:null}}}", "{by:null, n:3L}");
        done("{} | {k:null}", "{$group:{by:\"$k\", n:{$count:null}}}", "{by:null, n:2L}");
        done("{k:0} | {} | {k:false} | {k:\"\"} | {k:[]} | {k:{}}", "{$group:{by:\"$k\"}}",
            "{by:0} | {by:null} | {by:false} | {by:\"\"} | {by:[]} | {by:{}}");
        done("{k:1L} | {k:1} | {k:2} | {k:2L}", "{$group:{by:\"$k\", n:{$count:null}}}", "{by:1L, n:2L} | {by:2, n:2L}");
        done("{k:2147483647} | {k:2147483648L} | {k:2147483647L} | {k:-2147483648} | {k:-2147483648L}",
            "{$group:{by:\"$k\", n:{$count:null}}}", "{by:2147483647, n:2L} | {by:2147483648L, n:1L} | {by:-2147483648, n:2L}");
        // No row of VALUES is MISSING.
        done("{k:[1]} | {k:[]} | {k:1}", "{$group:{by:\"$k.a\", n:{$count:null}}}", "{by:[], n:2L} | {by:null, n:1L}");
    }

    private static void groupOrder() {
        says("groups come in the order of their first documents, each as a document: by with the first one's key");
        done("{k:3} | {k:1} | {k:2} | {k:1L} | {k:3L} | {k:0}", "{$group:{by:\"$k\"}}", "{by:3} | {by:1} | {by:2} | {by:0}");
        done("{k:[1L]} | {k:[1]}", "{$group:{by:\"$k\"}}", "{by:[1L]}");
        Run x = numbered(200);
        due("20 groups of 10", stage(x, "{$group:{by:\"$b\", n:{$count:null}}}"), 20);
        for (int k = 0; k < 20; k++) {
            due("key " + k, x.byteAt(0, k, 8), k);
            due("count of " + k, x.byteAt(0, k, 15), 10);
        }
        Run y = new Run();
        put(y, 0, "{a:" + numbers(200) + "}");
        stage(y, "{$unwind:\"$a\"}");
        due("200 groups", stage(y, "{$group:{by:\"$a\", n:{$count:null}}}"), 200);
        due("the last one's key", y.byteAt(0, 199, 8), 199);
        due("the last one's count", y.byteAt(0, 199, 15), 1);
    }

    /** What one group, one element or one stage has worked out is nothing to the next one. */
    private static void groupsAreApart() {
        says("Documents with the SAME key are a group .. over its values that are not MISSING, in order");
        String plan = "{$group:{by:\"$k\", n:{$count:null}, s:{$sum:\"$a\"}, l:{$min:\"$a\"}, g:{$max:\"$a\"}, f:{$first:\"$a\"}, "
            + "z:{$last:\"$a\"}, p:{$push:\"$a\"}, t:{$addToSet:\"$a\"}}}";
        String first = "{by:1, n:3L, s:-14L, l:-19, g:8, f:-3, z:8, p:[-3, -19, 8], t:[-3, -19, 8]}";
        String second = "{by:2, n:2L, s:9L, l:4, g:5, f:5, z:4, p:[5, 4], t:[5, 4]}";
        String third = "{by:3, n:1L, s:7L, l:7, g:7, f:7, z:7, p:[7], t:[7]}";
        String docs = "{k:1, a:-3} | {k:2, a:5} | {k:1, a:-19} | {k:3, a:7} | {k:2, a:4} | {k:1, a:8}";
        done(docs, plan, first + " | " + second + " | " + third);
        done("{k:3, a:7} | {k:2, a:5} | {k:2, a:4} | {k:1, a:-3} | {k:1, a:-19} | {k:1, a:8}", plan,
            third + " | " + second + " | " + first);
        // A key that looks like what another element's value says is itself.
        done("{a:1} | {a:2}", "{$group:{by:{$sum:" + MOST + "}}}", "{by:{$sum:" + MOST + "}}");
        done("{a:1} | {a:2}", "{$group:{by:{$sum:\"$a\"}, s:{$sum:\"$a\"}}}", "{by:{$sum:\"$a\"}, s:3L}");
        done("{a:1} | {a:2}", "{$group:{by:{$count:1}}}", "{by:{$count:1}}");
        // Rows that are worked out, more of them than a belt has bytes: 60 of 321 bytes for each element and the key.
        Run x = numbered(60);
        due("60", stage(x, "{$project:{b:true, r:[{v:" + text(150) + "}, {v:" + text(149) + "}]}}"), 60);
        String row = "[" + text(150) + ", " + text(149) + "]";
        String many = "{$group:{by:\"$r.v\", f:{$first:\"$r.v\"}, z:{$last:\"$r.v\"}, l:{$min:\"$r.v\"}, g:{$max:\"$r.v\"}, "
            + "s:{$sum:\"$r.v\"}, t:{$sum:\"$b\"}}}";
        due("60 of one key", stage(x, many), 1);
        due("60 of one key", show(x, 0),
            "{by:" + row + ", f:" + row + ", z:" + row + ", l:" + row + ", g:" + row + ", s:0L, t:570L}");
        // A key that is such a row stays what it is while others are worked out.
        done("{k:[{v:1}], q:[{w:7}, {w:8}]} | {k:[{v:2}], q:[{w:9}]} | {k:[{v:1L}], q:[]}",
            "{$group:{by:\"$k.v\", p:{$push:\"$q.w\"}, f:{$first:\"$q.w\"}, z:{$last:\"$q.w\"}, l:{$min:\"$q.w\"}}}",
            "{by:[1], p:[[7, 8], []], f:[7, 8], z:[], l:[]} | {by:[2], p:[[9]], f:[9], z:[9], l:[9]}");
        Run y = numbered(100);
        due("100", stage(y, "{$project:{b:true, r:[{v:" + text(150) + "}, {v:\"$\"}, {v:" + text(140) + "}]}}"), 100);
        due("100 in 20 groups", stage(y, "{$group:{by:\"$b\", f:{$first:\"$r.v\"}, z:{$last:\"$r.v\"}, g:{$max:\"$r.v\"}}}"), 20);
        String rows = "[" + text(150) + ", \"$\", " + text(140) + "]";
        due("100 in 20 groups", Tree.show(Tree.decode(bytes(y, 0, 19))), "{by:19, f:" + rows + ", z:" + rows + ", g:" + rows + "}");
    }

    private static void groupOthers() {
        says("for each other element .. what its value says, a document with one element: $count ..; or another one");
        for (String value : KINDS) {
            fault(2, "{a:5}", "{$group:{by:1, n:" + value + "}}");
            fault(2, "{a:5}", "{$group:{by:1, m:{$sum:1}, n:" + value + "}}");
        }
        for (String no : new String[] {"$avg", "count", "sum", "$", "", "$counts", "$coun", "$Sum", "$summ", "$su", "$mi", "$mini",
                "$maxi", "$firs", "$firsts", "$las", "$lasts", "$pus", "$pushs", "$addToSe", "$addToSets", "$addtoset", "min",
                "$$min", "by", "$project"}) {
            fault(2, "{a:5}", "{$group:{by:1, n:{\"" + no + "\":null}}}");
            fault(2, "{a:5}", "{$group:{by:1, n:{\"" + no + "\":\"$a\"}}}");
        }
        for (String yes : new String[] {"$sum", "$min", "$max", "$first", "$last", "$push", "$addToSet"}) {
            due(yes, stage(with("{a:5}", ""), "{$group:{by:1, n:{" + yes + ":\"$a\"}}}"), 1);
            fault(2, "{a:5}", "{$group:{by:1, n:{" + yes + ":\"$a\", x:1}}}");
            fault(2, "{a:5}", "{$group:{by:1, n:{x:1, " + yes + ":\"$a\"}}}");
            fault(2, "{a:5}", "{$group:{by:1, n:{" + yes + ":\"$a\", $count:null}}}");
            fault(2, "{a:5}", "{$group:{by:1, n:[{" + yes + ":\"$a\"}]}}");
        }
        fault(2, "{a:5}", "{$group:{by:1, n:{$count:null, $sum:1}}}");
        // As many elements as a stage holds.
        for (int count : new int[] {3, 4, 7, 8, 15, 16, 110}) {
            String plan = "{$group:{by:1, " + elements(count).replace("null", "{$min:null}") + ", ";
            done("{a:5}", plan + "a:{$max:\"$a\"}}}", "{by:1, " + elements(count) + ", a:5}");
            fault(2, "{a:5}", plan + "a:{$max:\"$a\", x:1}}}");
            fault(2, "{a:5}", plan + "$a:{$max:\"$a\"}}}");
            fault(3, "{a:5}", plan + "a:{$max:\"$\"}}}");
            fault(4, "{a:" + MOST + "} | {a:1}", plan + "a:{$sum:\"$a\"}}}");
        }
    }

    private static void groupCount() {
        says("$count, with NOTHING: how many there are .. $count and $sum are of kind 18");
        for (String value : KINDS) {
            if (value.equals("null")) {
                done("{a:5}", "{$group:{by:1, n:{$count:null}}}", "{by:1, n:1L}");
            } else {
                fault(2, "{a:5}", "{$group:{by:1, n:{$count:" + value + "}}}");
            }
        }
        // An expression's text is not looked at where there is to be NOTHING.
        fault(2, "{a:5}", "{$group:{by:1, n:{$count:\"$\"}}}");
        Run x = numbered(200);
        due("of 200", stage(x, "{$group:{by:1, n:{$count:null}}}"), 1);
        due("of 200", show(x, 0), "{by:1, n:200L}");
    }

    private static void groupSums() {
        says("$sum of those that are numbers (0 without any)");
        done("{a:5}", "{$group:{by:1, s:{$sum:\"$b\"}}}", "{by:1, s:0L}");
        done("{a:null} | {a:true} | {a:\"5\"} | {a:[5]} | {a:{b:5}}", "{$group:{by:1, s:{$sum:\"$a\"}}}", "{by:1, s:0L}");
        done("{a:5} | {a:true} | {a:7L} | {}", "{$group:{by:1, s:{$sum:\"$a\"}}}", "{by:1, s:12L}");
        done("{a:5} | {a:6}", "{$group:{by:1, s:{$sum:3}, t:{$sum:\"x\"}, u:{$sum:null}, v:{$sum:[1]}}}",
            "{by:1, s:6L, t:0L, u:0L, v:0L}");
        done("{a:2147483647} | {a:1}", "{$group:{by:1, s:{$sum:\"$a\"}}}", "{by:1, s:2147483648L}");
        done("{a:-2147483648} | {a:-1}", "{$group:{by:1, s:{$sum:\"$a\"}}}", "{by:1, s:-2147483649L}");
        done("{a:4294967295L} | {a:1}", "{$group:{by:1, s:{$sum:\"$a\"}}}", "{by:1, s:4294967296L}");
        done("{a:-4294967296L} | {a:-1}", "{$group:{by:1, s:{$sum:\"$a\"}}}", "{by:1, s:-4294967297L}");
    }

    private static void groupSumsOverTheEdge() {
        says("4: a sum that is no number of 64 bits");
        String plan = "{$group:{by:1, s:{$sum:\"$a\"}}}";
        done("{a:" + MOST + "}", plan, "{by:1, s:" + MOST + "}");
        done("{a:9223372036854775806L} | {a:1}", plan, "{by:1, s:" + MOST + "}");
        fault(4, "{a:" + MOST + "} | {a:1}", plan);
        fault(4, "{a:1} | {a:" + MOST + "}", plan);
        fault(4, "{a:" + MOST + "} | {a:" + MOST + "}", plan);
        done("{a:" + LEAST + "}", plan, "{by:1, s:" + LEAST + "}");
        done("{a:-9223372036854775807L} | {a:-1}", plan, "{by:1, s:" + LEAST + "}");
        fault(4, "{a:" + LEAST + "} | {a:-1}", plan);
        fault(4, "{a:-1} | {a:" + LEAST + "}", plan);
        fault(4, "{a:" + LEAST + "} | {a:" + LEAST + "}", plan);
        done("{a:" + LEAST + "} | {a:" + MOST + "}", plan, "{by:1, s:-1L}");
        // Only the whole sum has to be a number of 64 bits.
        done("{a:" + MOST + "} | {a:1} | {a:-1}", plan, "{by:1, s:" + MOST + "}");
        done("{a:" + LEAST + "} | {a:-1} | {a:1}", plan, "{by:1, s:" + LEAST + "}");
        done("{a:" + MOST + "} | {a:" + MOST + "} | {a:" + LEAST + "} | {a:" + LEAST + "} | {a:2}", plan, "{by:1, s:0L}");
        fault(4, "{a:" + MOST + "} | {a:1} | {a:-1} | {a:1}", plan);
        // Those that would come out right again after a wrap-around.
        done("{a:1}", "{$group:{by:1, s:{$sum:4611686018427387904L}}}", "{by:1, s:4611686018427387904L}");
        for (int documents = 2; documents <= 9; documents++) {
            String docs = "{a:1}" + " | {a:1}".repeat(documents - 1);
            fault(4, docs, "{$group:{by:1, s:{$sum:4611686018427387904L}}}");
            if (documents > 2) {
                fault(4, docs, "{$group:{by:1, s:{$sum:-4611686018427387904L}}}");
            }
        }
        done("{a:1} | {a:1}", "{$group:{by:1, s:{$sum:-4611686018427387904L}}}", "{by:1, s:" + LEAST + "}");
        refuse(numbered(200), 4, "{$group:{by:1, s:{$sum:" + MOST + "}}}");
        refuse(numbered(200), 4, "{$group:{by:1, s:{$sum:" + LEAST + "}}}");
        refuse(numbered(200), 4, "{$group:{by:1, s:{$sum:46116860184273880L}}}");
        Run x = numbered(200);
        due("the most that 200 can have", stage(x, "{$group:{by:1, s:{$sum:46116860184273879L}}}"), 1);
        due("the most that 200 can have", show(x, 0), "{by:1, s:9223372036854775800L}");
        // In any group, for any element.
        fault(4, "{k:1, a:1} | {k:2, a:" + MOST + "} | {k:2, a:1}", "{$group:{by:\"$k\", s:{$sum:\"$a\"}}}");
        fault(4, "{k:2, a:" + MOST + "} | {k:2, a:1} | {k:1, a:1}", "{$group:{by:\"$k\", s:{$sum:\"$a\"}}}");
        fault(4, "{a:" + MOST + "} | {a:1}", "{$group:{by:1, n:{$count:null}, r:{$sum:1}, s:{$sum:\"$a\"}}}");
        done("{k:1, a:" + MOST + "} | {k:2, a:1}", "{$group:{by:\"$k\", s:{$sum:\"$a\"}}}",
            "{by:1, s:" + MOST + "} | {by:2, s:1L}");
    }

    private static void groupLeastAndGreatest() {
        says("$min, $max by ORDER, the first of the SAME; .. NOTHING for these four when there is none");
        String plan = "{$group:{by:1, x:{$min:\"$a\"}, y:{$max:\"$a\"}}}";
        done("{b:1}", plan, "{by:1, x:null, y:null}");
        done("{b:1} | {b:2}", plan, "{by:1, x:null, y:null}");
        done("{b:1} | {a:5}", plan, "{by:1, x:5, y:5}");
        done("{a:5} | {b:1}", plan, "{by:1, x:5, y:5}");
        done("{a:null} | {a:5}", plan, "{by:1, x:null, y:5}");
        done("{a:1L} | {a:1} | {a:2} | {a:2L}", plan, "{by:1, x:1L, y:2}");
        done("{a:2L} | {a:1} | {a:2} | {a:1L}", plan, "{by:1, x:1, y:2L}");
        done("{a:[1L]} | {a:[1]}", plan, "{by:1, x:[1L], y:[1L]}");
        // No items here: the row is one value.
        done("{a:[0, 9]} | {a:5}", plan, "{by:1, x:5, y:[0, 9]}");
    }

    private static void groupFirstAndLast() {
        says("$first, $last (of all: NOTHING when it is MISSING there)");
        String plan = "{$group:{by:1, x:{$first:\"$a\"}, y:{$last:\"$a\"}}}";
        done("{a:5}", plan, "{by:1, x:5, y:5}");
        done("{a:5} | {a:6} | {a:7}", plan, "{by:1, x:5, y:7}");
        done("{b:1} | {a:6} | {a:7}", plan, "{by:1, x:null, y:7}");
        done("{a:5} | {a:6} | {b:1}", plan, "{by:1, x:5, y:null}");
        done("{b:1} | {a:6} | {b:1}", plan, "{by:1, x:null, y:null}");
        done("{b:1}", plan, "{by:1, x:null, y:null}");
        done("{k:1, a:1} | {k:2, a:2} | {k:1, a:3} | {k:2}", plan.replace("by:1", "by:\"$k\""),
            "{by:1, x:1, y:3} | {by:2, x:2, y:null}");
    }

    private static void groupRows() {
        says("$push: a row of all; $addToSet: a row of all that are not SAME as one ahead of them");
        String plan = "{$group:{by:1, x:{$push:\"$a\"}, y:{$addToSet:\"$a\"}}}";
        done("{b:1}", plan, "{by:1, x:[], y:[]}");
        done("{a:5} | {b:1} | {a:null} | {a:5}", plan, "{by:1, x:[5, null, 5], y:[5, null]}");
        done("{a:1L} | {a:1} | {a:2} | {a:1}", plan, "{by:1, x:[1L, 1, 2, 1], y:[1L, 2]}");
        done("{a:[1]} | {a:[1L]} | {a:[1, 2]} | {a:1}", plan, "{by:1, x:[[1], [1L], [1, 2], 1], y:[[1], [1, 2], 1]}");
        // Names of one, two and three digits.
        for (int count : new int[] {9, 10, 11, 99, 100, 101, 200}) {
            Run x = numbered(count);
            due("a row of " + count, stage(x, "{$group:{by:1, x:{$push:null}, y:{$addToSet:null}}}"), 1);
            due("a row of " + count, show(x, 0), "{by:1, x:[" + "null, ".repeat(count - 1) + "null], y:[null]}");
        }
        Run x = numbered(200);
        stage(x, "{$group:{by:1, y:{$addToSet:\"$b\"}}}");
        due("20 different ones of 200", show(x, 0), "{by:1, y:" + numbers(20) + "}");
    }

    // ---- $sort

    private static void sortElements() {
        says("$sort: a document with 1 to 4 elements");
        for (String value : KINDS) {
            if (value.equals("{a:1}")) {
                done("{a:6} | {a:5}", "{$sort:{a:1}}", "{a:5} | {a:6}");
            } else {
                fault(2, "{a:6} | {a:5}", "{$sort:" + value + "}");
                fault(2, "", "{$sort:" + value + "}");
            }
        }
        String docs = "{d:1, e:5} | {d:0, e:6}";
        String turned = "{d:0, e:6} | {d:1, e:5}";
        done(docs, "{$sort:{d:1}}", turned);
        done(docs, "{$sort:{a:1, d:1}}", turned);
        done(docs, "{$sort:{a:1, b:1, d:1}}", turned);
        done(docs, "{$sort:{a:1, b:1, c:1, d:1}}", turned);
        fault(2, docs, "{$sort:{a:1, b:1, c:1, d:1, e:1}}");
        fault(2, docs, "{$sort:{a:1, b:1, c:1, d:1, e:1, f:1}}");
        fault(2, docs, "{$sort:{}}");
    }

    private static void sortSigns() {
        says("their values numbers 1 or -1");
        String docs = "{a:6} | {a:5} | {a:7}";
        for (String one : new String[] {"1", "1L"}) {
            done(docs, "{$sort:{a:" + one + "}}", "{a:5} | {a:6} | {a:7}");
            done(docs, "{$sort:{a:-" + one + "}}", "{a:7} | {a:6} | {a:5}");
        }
        for (String no : new String[] {"0", "2", "-2", "0L", "2L", "-2L", "4294967297L", "-4294967297L", "4294967295L", "257",
                "65537", "2147483647", "-2147483648", MOST, LEAST, "null", "true", "false", "\"1\"", "{}", "{a:1}", "[1]", "[]"}) {
            fault(2, docs, "{$sort:{a:" + no + "}}");
            fault(2, docs, "{$sort:{b:1, c:-1, a:" + no + "}}");
        }
    }

    private static void sortNext() {
        says("by the first of them, those that are the SAME there by the next one, and so on");
        String docs = "{a:1, b:1, c:1, d:1} | {a:1L, b:1, c:1, d:0} | {a:1, b:1L, c:0, d:2} | {a:1, b:0, c:9, d:9}"
            + " | {a:0, b:9, c:9, d:9}";
        done(docs, "{$sort:{a:1, b:1, c:1, d:1}}", "{a:0, b:9, c:9, d:9} | {a:1, b:0, c:9, d:9} | {a:1, b:1L, c:0, d:2}"
            + " | {a:1L, b:1, c:1, d:0} | {a:1, b:1, c:1, d:1}");
        done(docs, "{$sort:{a:-1, b:-1, c:-1, d:-1}}", "{a:1, b:1, c:1, d:1} | {a:1L, b:1, c:1, d:0} | {a:1, b:1L, c:0, d:2}"
            + " | {a:1, b:0, c:9, d:9} | {a:0, b:9, c:9, d:9}");
        done(docs, "{$sort:{a:1, b:-1, c:-1, d:1}}", "{a:0, b:9, c:9, d:9} | {a:1L, b:1, c:1, d:0} | {a:1, b:1, c:1, d:1}"
            + " | {a:1, b:1L, c:0, d:2} | {a:1, b:0, c:9, d:9}");
    }

    private static void sortAsTheyStood() {
        says("then as they stood");
        String docs = "{a:1, i:1} | {a:1L, i:2} | {a:0, i:3} | {a:1, i:4} | {a:0L, i:5}";
        done(docs, "{$sort:{a:1}}", "{a:0, i:3} | {a:0L, i:5} | {a:1, i:1} | {a:1L, i:2} | {a:1, i:4}");
        done(docs, "{$sort:{a:-1}}", "{a:1, i:1} | {a:1L, i:2} | {a:1, i:4} | {a:0, i:3} | {a:0L, i:5}");
        done(docs, "{$sort:{b:1}}", docs);
        done(docs, "{$sort:{b:-1}}", docs);
        Run x = numbered(200);
        due("200", stage(x, "{$sort:{b:-1}}"), 200);
        for (int k : new int[] {0, 1, 9, 10, 99, 100, 190, 199}) {
            due("b of " + k, x.byteAt(0, k, 14), 19 - k / 10);
            due("i of " + k, x.byteAt(0, k, 7), k % 10);
        }
        done("{a:1}", "{$sort:{a:1}}", "{a:1}");
        done("", "{$sort:{a:-1}}", "");
        // All four the SAME; and a stage that sorts by more is nothing to one that sorts by less.
        String four = "{a:1, i:1} | {a:1, i:0} | {a:1, i:2}";
        done(four, "{$sort:{a:1, b:-1, c:1, d:-1}}", four);
        Run y = with("{a:1, b:1} | {a:1, b:0} | {a:0, b:2}", "");
        due("by two", stage(y, "{$sort:{a:1, b:1}}"), 3);
        due("by two", show(y, 0), "{a:0, b:2} | {a:1, b:0} | {a:1, b:1}");
        due("turned", stage(y, "{$sort:{b:-1}}"), 3);
        due("turned", show(y, 0), "{a:0, b:2} | {a:1, b:1} | {a:1, b:0}");
        due("by one", stage(y, "{$sort:{a:1}}"), 3);
        due("by one", show(y, 0), "{a:0, b:2} | {a:1, b:1} | {a:1, b:0}");
    }

    // ---- $skip, $limit

    private static void skip() {
        says("$skip ..: so many first ones go");
        String docs = "{a:1} | {a:2} | {a:3}";
        done(docs, "{$skip:0}", docs);
        done(docs, "{$skip:1}", "{a:2} | {a:3}");
        done(docs, "{$skip:2}", "{a:3}");
        done(docs, "{$skip:3}", "");
        done(docs, "{$skip:4}", "");
        done("", "{$skip:0}", "");
        done("", "{$skip:1}", "");
        due("199 of 200", stage(numbered(200), "{$skip:199}"), 1);
        due("200 of 200", stage(numbered(200), "{$skip:200}"), 0);
        due("201 of 200", stage(numbered(200), "{$skip:201}"), 0);
    }

    private static void limit() {
        says("$limit: .. others than so many first ones go");
        String docs = "{a:1} | {a:2} | {a:3}";
        done(docs, "{$limit:0}", "");
        done(docs, "{$limit:1}", "{a:1}");
        done(docs, "{$limit:2}", "{a:1} | {a:2}");
        done(docs, "{$limit:3}", docs);
        done(docs, "{$limit:4}", docs);
        done("", "{$limit:0}", "");
        done("", "{$limit:1}", "");
        due("199 of 200", stage(numbered(200), "{$limit:199}"), 199);
        due("200 of 200", stage(numbered(200), "{$limit:200}"), 200);
        due("201 of 200", stage(numbered(200), "{$limit:201}"), 200);
    }

    private static void skipAndLimitNumbers() {
        says("$skip, $limit: a number from 0 on");
        String docs = "{a:1} | {a:2} | {a:3}";
        for (String no : new String[] {"-1", "-1L", "-2", "-2147483648", "-2147483649L", "-4294967295L", "-4294967296L", LEAST,
                "null", "true", "false", "\"\"", "\"1\"", "{}", "{a:1}", "[]", "[1]"}) {
            fault(2, docs, "{$skip:" + no + "}");
            fault(2, docs, "{$limit:" + no + "}");
            fault(2, "", "{$skip:" + no + "}");
            fault(2, "", "{$limit:" + no + "}");
        }
        done(docs, "{$skip:0L}", docs);
        done(docs, "{$limit:0L}", "");
        done(docs, "{$skip:1L}", "{a:2} | {a:3}");
        done(docs, "{$limit:1L}", "{a:1}");
        for (String much : new String[] {"2147483647", "2147483648L", "4294967295L", "4294967296L", "4294967297L", MOST}) {
            done(docs, "{$skip:" + much + "}", "");
            done(docs, "{$limit:" + much + "}", docs);
        }
    }

    // ---- $lookup

    private static void lookupElements() {
        says("$lookup: a document with three elements here, there, as, in this order, texts");
        for (String value : KINDS) {
            fault(2, "{a:5}", "{$lookup:" + value + "}");
            fault(2, "", "{$lookup:" + value + "}");
            if (!value.startsWith("\"")) {
                fault(2, "{a:5}", "{$lookup:{here:" + value + ", there:\"a\", as:\"o\"}}");
                fault(2, "{a:5}", "{$lookup:{here:\"a\", there:" + value + ", as:\"o\"}}");
                fault(2, "{a:5}", "{$lookup:{here:\"a\", there:\"a\", as:" + value + "}}");
            }
        }
        String[] parts = {"here:\"a\"", "there:\"a\"", "as:\"o\""};
        found("{a:5}", "{a:5}", "{$lookup:{" + String.join(", ", parts) + "}}", "{a:5, o:[{a:5}]}");
        for (int i = 0; i < 3; i++) {
            String p = parts[i];
            String q = parts[(i + 1) % 3];
            String r = parts[(i + 2) % 3];
            fault(2, "{a:5}", "{$lookup:{" + p + "}}");
            fault(2, "{a:5}", "{$lookup:{" + p + ", " + q + "}}");
            fault(2, "{a:5}", "{$lookup:{" + q + ", " + p + "}}");
            fault(2, "{a:5}", "{$lookup:{" + p + ", " + r + ", " + q + "}}");
            if (i > 0) {
                fault(2, "{a:5}", "{$lookup:{" + p + ", " + q + ", " + r + "}}");
            }
            String[] other = parts.clone();
            for (String name : new String[] {"q" + p.substring(1), "x" + p, p.replace(":", "s:"),
                    "\"\"" + p.substring(p.indexOf(':'))}) {
                other[i] = name;
                fault(2, "{a:5}", "{$lookup:{" + String.join(", ", other) + "}}");
            }
        }
        fault(2, "{a:5}", "{$lookup:{here:\"a\", there:\"a\", as:\"o\", more:\"x\"}}");
        fault(2, "{a:5}", "{$lookup:{more:\"x\", here:\"a\", there:\"a\", as:\"o\"}}");
        fault(2, "{a:5}", "{$lookup:[\"a\", \"a\", \"o\"]}");
    }

    private static void lookupPlace() {
        says("each document gets an element of that name (in place of its own, or behind the others)");
        String stage = "{$lookup:{here:\"a\", there:\"b\", as:\"o\"}}";
        for (String v : KINDS) {
            found("{o:" + v + ", a:5}", "{b:5}", stage, "{o:[{b:5}], a:5}");
            found("{a:5, o:" + v + ", z:1}", "{b:5}", stage, "{a:5, o:[{b:5}], z:1}");
            found("{a:5, o:" + v + "}", "{b:6}", stage, "{a:5, o:[]}");
        }
        found("{a:5, z:1}", "{b:5}", stage, "{a:5, z:1, o:[{b:5}]}");
        found("{}", "", stage, "{o:[]}");
        found("{oo:1, O:2, p:{o:3}}", "", stage, "{oo:1, O:2, p:{o:3}, o:[]}");
        // Its own may be what is looked at.
        found("{a:5}", "{b:5}", "{$lookup:{here:\"a\", there:\"b\", as:\"a\"}}", "{a:[{b:5}]}");
        found("{x:1, a:{c:5}, y:2}", "{b:5}", "{$lookup:{here:\"a.c\", there:\"b\", as:\"a\"}}", "{x:1, a:[{b:5}], y:2}");
    }

    private static void lookupFound() {
        says("a row of those documents of belt 1, in order, that have a leaf WITH ITEMS of there that is the SAME as one of here");
        String stage = "{$lookup:{here:\"a\", there:\"b\", as:\"o\"}}";
        found("{a:5} | {a:6} | {a:7}", "{b:6} | {b:5, i:1} | {b:5L, i:2} | {b:[6, 5]}", stage,
            "{a:5, o:[{b:5, i:1}, {b:5L, i:2}, {b:[6, 5]}]} | {a:6, o:[{b:6}, {b:[6, 5]}]} | {a:7, o:[]}");
        // Once, though more than one leaf is the SAME as more than one.
        found("{a:[1, 2, 1]}", "{b:[2, 1, 2]} | {b:3}", stage, "{a:[1, 2, 1], o:[{b:[2, 1, 2]}]}");
        // In the order of belt 1, not of the leaves.
        found("{a:[3, 2, 1]}", "{b:1} | {b:2} | {b:3}", stage, "{a:[3, 2, 1], o:[{b:1}, {b:2}, {b:3}]}");
        // Numbers that have the low or high half of their bits in common are not the SAME.
        found("{a:1} | {a:-1} | {a:4294967296L}", "{b:4294967297L} | {b:4294967295L} | {b:0} | {b:1L}", stage,
            "{a:1, o:[{b:1L}]} | {a:-1, o:[]} | {a:4294967296L, o:[]}");
        found("{a:1}", "", stage, "{a:1, o:[]}");
        found("", "{b:1}", stage, "");
    }

    private static void lookupNothing() {
        says("MISSING and no leaf at all are NOTHING here");
        String stage = "{$lookup:{here:\"a.x\", there:\"b\", as:\"o\"}}";
        // MISSING at a document, at another value, and no leaf at all, against NOTHING.
        found("{} | {a:{}} | {a:5} | {a:null} | {a:[1]} | {a:[]} | {a:{x:null}} | {a:{x:[null]}}", "{b:null, i:1} | {b:0}", stage,
            "{o:[{b:null, i:1}]} | {a:{}, o:[{b:null, i:1}]} | {a:5, o:[{b:null, i:1}]} | {a:null, o:[{b:null, i:1}]}"
            + " | {a:[1], o:[{b:null, i:1}]} | {a:[], o:[{b:null, i:1}]} | {a:{x:null}, o:[{b:null, i:1}]}"
            + " | {a:{x:[null]}, o:[{b:null, i:1}]}");
        found("{a:{x:0}} | {a:{x:[]}} | {a:{x:false}} | {a:{x:\"\"}}", "{b:null}", stage,
            "{a:{x:0}, o:[]} | {a:{x:[]}, o:[]} | {a:{x:false}, o:[]} | {a:{x:\"\"}, o:[]}");
        // On the other side, too.
        found("{b:null}", "{} | {a:{}} | {a:5} | {a:[1]} | {a:[]} | {a:{x:null}} | {a:{x:[]}} | {a:{x:0}}",
            "{$lookup:{here:\"b\", there:\"a.x\", as:\"o\"}}", "{b:null, o:[{}, {a:{}}, {a:5}, {a:[1]}, {a:[]}, {a:{x:null}}]}");
        // One leaf MISSING beside others.
        found("{a:[{x:5}, {}]} | {a:[{x:5}, 6]}", "{b:null} | {b:5}", stage,
            "{a:[{x:5}, {}], o:[{b:null}, {b:5}]} | {a:[{x:5}, 6], o:[{b:5}]}");
    }

    private static void lookupEachLeaf() {
        says("that have a leaf WITH ITEMS of there that is the SAME as one of here");
        // Each of 150 numbers of one row is found, and none that is not there.
        for (int from = -10; from < 160; from += 20) {
            Run x = with("", "{r:" + numbers(150) + "}");
            StringBuilder asked = new StringBuilder();
            for (int i = from; i < from + 20; i++) {
                asked.append(asked.length() == 0 ? "" : ", ").append(i).append(i % 2 == 0 ? "L" : "");
            }
            put(x, 0, "{k:[" + asked + "]}");
            due("20", stage(x, "{$unwind:\"$k\"}"), 20);
            due("20", stage(x, "{$lookup:{here:\"k\", there:\"r\", as:\"o\"}}"), 20);
            for (int k = 0; k < 20; k++) {
                due("number " + (from + k), x.size(0, k) > 1000, from + k >= 0 && from + k < 150);
            }
        }
        // One that has all of them finds each of 150 documents; another one finds none of them.
        Run y = with("{r:" + numbers(150) + "}", "");
        y.swap();
        put(y, 0, "{k:" + numbers(150) + "}");
        due("150", stage(y, "{$unwind:\"$k\"}"), 150);
        due("150", stage(y, "{$lookup:{here:\"z\", there:\"z\", as:\"o\"}}"), -5);
        stage(y, "{$limit:60}");
        y.swap();
        due("60 of 150", stage(y, "{$project:{r:" + numbers(60) + ", i:1}}"), 1);
        due("60 of 60", stage(y, "{$lookup:{here:\"r\", there:\"k\", as:\"o\"}}"), 1);
        Tree.Row found = (Tree.Row) Tree.decode(bytes(y, 0, 0)).get("o");
        due("60 of 60", Tree.show(found), numbers(60).replaceAll("(\\d+)", "{k:$1}"));
        due("none", stage(y, "{$project:{r:" + numbers(60).replaceAll("(\\d+)", "6$10") + "}}"), 1);
        due("one of 60", stage(y, "{$lookup:{here:\"r\", there:\"k\", as:\"o\"}}"), 1);
        found = (Tree.Row) Tree.decode(bytes(y, 0, 0)).get("o");
        due("none of 60", Tree.show(found), "[]");
    }

    private static void lookupMany() {
        says("a row of those documents of belt 1, in order");
        for (int count : new int[] {1, 9, 10, 11, 99, 100, 101, 150}) {
            Run x = numbered(count);
            stage(x, "{$project:{x:\"$y\"}}");
            x.swap();
            put(x, 0, "{k:1}");
            due("found " + count, stage(x, "{$lookup:{here:\"m\", there:\"m\", as:\"o\"}}"), 1);
            due("found " + count, show(x, 0), "{k:1, o:[" + "{}, ".repeat(count - 1) + "{}]}");
        }
        Run x = numbered(200);
        put(x, 1, "{b:19, z:1}");
        put(x, 1, "{b:0, z:2}");
        due("for each of 200", stage(x, "{$lookup:{here:\"b\", there:\"b\", as:\"o\"}}"), 200);
        due("found for the first", x.size(0, 0), 19 + 8 + 3 + 19);
        due("found for none", x.size(0, 1), 19 + 8);
        due("found for the last", x.size(0, 199), 19 + 8 + 3 + 19);
        due("found for the last", x.byteAt(0, 199, 42), 1);
        due("found for the first", x.byteAt(0, 0, 42), 2);
        // As often as one likes, with as many leaves as there can be: 200 documents of 20 numbers.
        Run y = numbered(200);
        due("200 of 20 numbers", stage(y, "{$project:{b:true, r:" + numbers(20) + "}}"), 200);
        y.swap();
        put(y, 0, "{k:25}");
        put(y, 0, "{k:-1}");
        for (int i = 0; i < 8; i++) {
            due("none of 4,000 leaves", stage(y, "{$lookup:{here:\"k\", there:\"r\", as:\"o\"}}"), 2);
            due("none of 4,000 leaves", show(y, 0), "{k:25, o:[]} | {k:-1, o:[]}");
        }
        put(y, 1, "{r:-1}");
        due("no room for one more", y.many(1, 0), 200);
        y.swap();
        due("one less", stage(y, "{$limit:199}"), 199);
        put(y, 0, "{r:[-1, 26]}");
        y.swap();
        due("one of 4,000 leaves", stage(y, "{$lookup:{here:\"k\", there:\"r\", as:\"o\"}}"), 2);
        due("one of 4,000 leaves", show(y, 0), "{k:25, o:[]} | {k:-1, o:[{r:[-1, 26]}]}");
    }
}
