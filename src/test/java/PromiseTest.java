import java.util.List;

/** Each promise of the document by hand: ordinary inputs, the edges that it names, wrong inputs. */
public final class PromiseTest extends Bench {
    public static void main(String[] args) {
        newObject();
        feed();
        put();
        putRightDocuments();
        putWrongDocuments();
        putWithoutRoom();
        stageAnswers();
        project();
        projectFaults();
        value();
        unwind();
        unwindFaults();
        group();
        groupWorks();
        groupSums();
        groupFaults();
        sort();
        sortFaults();
        order();
        skipAndLimit();
        lookup();
        lookupFaults();
        leaves();
        pathFaults();
        roomFaults();
        many();
        size();
        byteAt();
        clear();
        swap();
        end("all promises hold");
    }

    // ---- Promise 1

    private static void newObject() {
        Run x = new Run();
        for (int belt = 0; belt < 2; belt++) {
            due("new: many", x.many(belt, 0), 0);
            due("new: bytes", x.many(belt, 1), 0);
            due("new: size", x.size(belt, 0), -1);
            due("new: byteAt", x.byteAt(belt, 0, 0), -1);
            due("new: clear", x.clear(belt), 0);
        }
        due("new: put more than the tape has", x.put(0, 1), -2);
        due("new: stage more than the tape has", x.stage(1), -2);
        due("new: put nothing", x.put(0, 0), -1);
        due("new: stage nothing", x.stage(0), -1);
    }

    // ---- Promise 2

    private static void feed() {
        Run x = new Run();
        byte[] most = Tree.encode(Tree.doc(sized(2000)));
        for (int i = 0; i < 100; i++) {
            due("feed", feedFrom(x, most, 20 * i), 20 * i + 20);
        }
        due("feed beyond 2,000", x.feed(-1, -1, -1, -1, -1), -1);
        due("feed beyond 2,000 again", x.feed(0, 0, 0, 0, 0), -1);
        due("2,000 bytes are a document", x.put(0, 2000), 1);
        dueBytes("it has the bytes that were fed", bytes(x, 0, 0), most);
        due("the tape is empty then", x.feed(1, 2, 3, 4, 5), 20);

        Run y = new Run();
        y.feed(0x14000000, 0x12610001, 0x02030405, 0x86078008, 0xFF000000);
        due("the highest byte first", y.put(0, 20), -1);
        y.feed(0x14000000, 0x02610008, 0x00000041, 0x42434445, 0x46470000);
        due("the highest byte first", y.put(0, 20), 1);
        due("the highest byte first", show(y, 0), "{a:\"ABCDEFG\"}");
    }

    // ---- Promise 3

    private static void put() {
        Run x = new Run();
        send(x, Tree.encode(Tree.doc("{a:1}")));
        for (int n : new int[] {-1, 21, 2000, 2001, Integer.MIN_VALUE, Integer.MAX_VALUE}) {
            due("put of " + n, x.put(0, n), -2);
        }
        for (int belt : new int[] {-1, 2, Integer.MIN_VALUE, Integer.MAX_VALUE}) {
            due("put on belt " + belt, x.put(belt, 12), -2);
        }
        due("-2 does nothing", x.put(1, 12), 1);
        due("the tape is empty then", x.put(1, 1), -2);
        due("it is on that belt", show(x, 1), "{a:1}");
        due("it is not on the other", show(x, 0), "");
        put(x, 1, "{b:2}");
        due("behind those of the belt", show(x, 1), "{a:1} | {b:2}");
        send(x, Tree.encode(Tree.doc("{a:1}")));
        due("too few bytes", x.put(0, 11), -1);
        due("the tape is empty then, too", x.put(0, 12), -2);
        send(x, Tree.encode(Tree.doc("{a:1}")));
        due("too many bytes", x.put(0, 13), -1);
        send(x, new byte[20]);
        due("no bytes", x.put(0, 0), -1);
        due("the tape is empty then, too", x.feed(0, 0, 0, 0, 0), 20);
    }

    private static void putRightDocuments() {
        for (String d : List.of("{}", "{a:1, b:-2L, c:true, d:false, e:null, f:\"\", g:\"text\", h:{}, i:[]}",
                "{\"\":1}", "{\"\":null, a:{\"\":{}}}", "{a:[1, [2], {b:3}, \"4\", null, true]}",
                "{a:{a:1}, b:{a:1}}", "{a:\"\0\0\"}", "{\"$a.b\":1}",
                "{a:[0, 1, 2, 3, 4, 5, 6, 7, 8, 9, 10, 11]}", "{a:\"\u00c2\u0080\u00df\u00bf\"}",
                "{a:\"\u00e0\u00a0\u0080\u00ed\u009f\u00bf\u00ee\u0080\u0080\u00ef\u00bf\u00bf\"}",
                "{a:\"\u00f0\u0090\u0080\u0080\u00f4\u008f\u00bf\u00bf\"}", "{\"\u00f4\u008f\u00bf\u00bf\":1}")) {
            Run x = new Run();
            byte[] b = Tree.encode(Tree.doc(d));
            send(x, b);
            due("put of " + d, x.put(0, b.length), 1);
            dueBytes("put of " + d, bytes(x, 0, 0), b);
        }
        Run x = new Run();
        due("16 deep", put(x, 0, nested(16, "{", "a:", "1", "}")), 1);
        due("16 deep with rows", put(x, 0, "{a:" + nested(15, "[", "", "1", "]") + "}"), 2);
    }

    private static void putWrongDocuments() {
        for (String hex : List.of(
                "00", "0500000000 00", "0400000000", "06000000 00", "0500000001", "050000000a",
                "05000080 00", "ffffffff 00", "05010000 00",
                "08000000 0a6100 01", "08000000 0a610a 00", "08000000 0061 0000", "0a000000 116100 0000 00",
                "08000000 016100 00", "0b000000 106100 000000 00", "0f000000 126100 00000000000000 00",
                "09000000 086100 02 00", "09000000 086100 ff 00", "08000000 086100 00",
                "0c000000 026100 00000000 00", "0d000000 026100 02000000 00 00", "0d000000 026100 01000000 41 00",
                "0e000000 026100 01000000 00 00 00", "0c000000 026100 ffffffff 00", "0d000000 026100 ffffff7f 00 00",
                "0b000000 026100 010000 00",
                "0d000000 036100 05000000 01 00", "0d000000 036100 04000000 00 00", "0d000000 036100 06000000 00 00",
                "0d000000 036100 ffffff7f 00 00", "0d000000 036100 fbffffff 00 00", "0c000000 036100 05000000 00",
                "0b000000 0a6100 0a6100 00", "0f000000 0a6100 0a6200 0a6100 00",
                "10000000 046100 08000000 0a3100 00 00", "10000000 046100 08000000 0a6100 00 00",
                "11000000 046100 09000000 0a303000 00 00", "0f000000 046100 07000000 0a00 00 00",
                "13000000 046100 0b000000 0a3000 0a3000 00 00", "13000000 046100 0b000000 0a3000 0a3200 00 00",
                "10000000 036100 08000000 0b3000 00 00")) {
            wrongBytes(hex);
        }
        for (String utf8 : List.of("80", "bf", "c0", "c0 80", "c1 bf", "c2", "c2 41", "c2 c2", "e0 9f bf", "e0 a0",
                "e1 80 41", "e1 41 80", "ed a0 80", "ed bf bf", "ef bf", "f0 8f bf bf", "f0 90 80", "f1 80 80 41",
                "f4 90 80 80", "f5 80 80 80", "f8 88 80 80 80", "ff", "fe", "41 80")) {
            String bytes = Tree.latin(unhex(utf8));
            due("a text of " + utf8, put(new Run(), 0, "{a:\"" + bytes + "\"}"), -1);
            due("a name of " + utf8, put(new Run(), 0, "{\"" + bytes + "\":1}"), -1);
        }
        due("17 deep", put(new Run(), 0, nested(17, "{", "a:", "1", "}")), -1);
        due("17 deep with rows", put(new Run(), 0, "{a:" + nested(16, "[", "", "1", "]") + "}"), -1);
    }

    private static void wrongBytes(String hex) {
        Run x = new Run();
        byte[] b = unhex(hex);
        send(x, b);
        due("put of " + hex, x.put(0, b.length), -1);
        due("nothing is put", x.many(0, 0), 0);
        send(x, b);
        due("stage of " + hex, x.stage(b.length), -1);
    }

    private static void putWithoutRoom() {
        Run x = new Run();
        for (int i = 1; i <= 200; i++) {
            due("200 documents", put(x, 1, "{a:" + i + "}"), i);
        }
        due("201 documents", put(x, 1, "{a:1}"), -3);
        due("the tape is empty then", x.put(1, 1), -2);
        due("the belt stays", x.many(1, 0), 200);
        due("a wrong document and no room", put(x, 1, "{a:\"\u0080\"}"), -1);
        due("the other belt has room", put(x, 0, "{a:1}"), 1);

        // 99 documents of 400 bytes.
        Run y = numbered(99);
        due("39,600 bytes", stage(y, "{$project:{i:true, t:" + text(380) + "}}"), 99);
        due("more than 40,000 bytes", put(y, 0, sized(401)), -3);
        due("39,600 bytes", y.many(0, 1), 39600);
        due("39,995 bytes", put(y, 0, sized(395)), 100);
        due("more than 40,000 bytes", put(y, 0, "{a:1}"), -3);
        due("40,000 bytes", put(y, 0, "{}"), 101);
        due("40,000 bytes", y.many(0, 1), 40000);
        due("more than 40,000 bytes", put(y, 0, "{}"), -3);
        due("a stage has the same room", stage(y, "{$skip:0}"), 101);
    }

    // ---- Promise 4

    private static void stageAnswers() {
        Run x = new Run();
        put(x, 0, "{a:1}");
        byte[] skip = Tree.encode(Tree.doc("{$skip:1}"));
        send(x, skip);
        for (int n : new int[] {-1, 21, 2001, Integer.MIN_VALUE, Integer.MAX_VALUE}) {
            due("stage of " + n, x.stage(n), -2);
        }
        due("-2 does nothing", x.stage(skip.length), 0);
        due("the tape is empty then", x.stage(1), -2);
        send(x, skip);
        due("too few bytes", x.stage(skip.length - 1), -1);
        due("the tape is empty then, too", x.stage(skip.length), -2);
        for (String s : List.of("{}", "{$skip:0, $limit:1}", "{skip:0}", "{\"\":0}", "{$Skip:0}", "{$ski:0}",
                "{$skipp:0}", "{$match:{}}", "{$project:1, x:1}", "{$group:1, $group2:1}")) {
            fault(1, "{a:1} | {a:2}", s);
        }
        due("a fault", stage(x, "{$no:1}"), -9);
        due("the tape is empty after a fault", x.stage(1), -2);
    }

    private static void project() {
        done("{a:1, b:2, c:3} | {c:4L, a:null} | {d:1} | {}", "{$project:{c:true, a:true}}",
            "{c:3, a:1} | {c:4L, a:null} | {} | {}");
        done("{a:1, b:\"x\"}", "{$project:{x:\"$a\", y:\"$b\", z:\"$c\", b:false, n:null, k:5, t:\"a\", l:7L}}",
            "{x:1, y:\"x\", b:false, n:null, k:5, t:\"a\", l:7L}");
        done("{a:1}", "{$project:{d:{e:\"$a\", f:true}, r:[\"$a\", true], e:\"\"}}",
            "{d:{e:\"$a\", f:true}, r:[\"$a\", true], e:\"\"}");
        done("{a:{b:[1, {c:2}]}}", "{$project:{a:true, x:\"$a.b\"}}", "{a:{b:[1, {c:2}]}, x:[1, {c:2}]}");
        done("{b:1, a:2}", "{$project:{a:\"$b\", b:\"$a\"}}", "{a:1, b:2}");
        done("", "{$project:{a:true}}", "");
    }

    private static void projectFaults() {
        for (String s : List.of("1", "null", "true", "\"$a\"", "{}", "[]", "[true]", "{\"\":true}", "{\"a.b\":true}",
                "{\".\":1}", "{$a:true}", "{$:1}", "{a:true, $b:1}", "{a:true, \"\":1, b:\"$\"}", "{$a:\"$\"}")) {
            fault(2, "{a:1}", "{$project:" + s + "}");
        }
        for (String s : List.of("{a:\"$\"}", "{a:\"$.\"}", "{a:\"$a.\"}", "{a:true, b:\"$a..b\", $c:1}", "{a:\"$$a\"}")) {
            fault(3, "{a:1}", "{$project:" + s + "}");
        }
        fault(2, "", "{$project:{}}");
        fault(3, "", "{$project:{a:\"$\"}}");
    }

    private static void value() {
        valueOf("{a:{b:{c:1}}}", "a.b.c", "1");
        valueOf("{a:{b:{c:1}}}", "a.b", "{c:1}");
        valueOf("{a:{b:1}}", "a.c", null);
        valueOf("{a:{b:1}}", "a.b.c", null);
        valueOf("{a:null}", "a", "null");
        valueOf("{a:null}", "a.b", null);
        valueOf("{a:[1, {b:2}, {c:3}, [{b:4}], {b:null}, {b:[5]}]}", "a.b", "[2, null, [5]]");
        valueOf("{a:[]}", "a.b", "[]");
        valueOf("{a:[]}", "a", "[]");
        valueOf("{a:[1, 2]}", "a.b.c.d", "[]");
        valueOf("{a:[1, 2]}", "a.0", "[]");
        valueOf("{a:[{\"0\":7}, 2]}", "a.0", "[7]");
        valueOf("{a:[{b:[{c:1}, {d:2}, {c:3L}]}, {b:{c:4}}, {b:[]}, {b:5}, {x:1}]}", "a.b.c", "[[1, 3L], 4, []]");
        valueOf("{a:[{b:1}, {b:2}, {b:3}, {b:4}, {b:5}, {b:6}, {b:7}, {b:8}, {b:9}, {b:10}, {b:11}, {c:1}, {b:\"x\"}]}",
            "a.b", "[1, 2, 3, 4, 5, 6, 7, 8, 9, 10, 11, \"x\"]");
        valueOf("{a:[{x:1}, {x:1}, {x:1}, {x:1}, {x:1}, {x:1}, {x:1}, {x:1}, {x:1}, {x:1}, {b:1}]}", "a.b", "[1]");
        valueOf("{a:{b:{c:{d:{e:{f:{g:{h:8}}}}}}}}", "a.b.c.d.e.f.g.h", "8");
        valueOf("{\"\u00c3\u00a9\":{\" \":1}}", "\u00c3\u00a9. ", "1");
    }

    private static void valueOf(String document, String path, String due) {
        done(document, "{$project:{v:\"$" + path + "\"}}", due == null ? "{}" : "{v:" + due + "}");
        done(document, "{$group:{by:\"$" + path + "\"}}", due == null ? "{by:null}" : "{by:" + due + "}");
    }

    private static void unwind() {
        done("{x:0, a:[1, 2L, \"t\", null, {b:1}, [3], []], y:9}", "{$unwind:\"$a\"}",
            "{x:0, a:1, y:9} | {x:0, a:2L, y:9} | {x:0, a:\"t\", y:9} | {x:0, a:null, y:9} | {x:0, a:{b:1}, y:9}"
            + " | {x:0, a:[3], y:9} | {x:0, a:[], y:9}");
        done("{a:[]} | {b:1} | {a:null} | {a:5} | {a:{c:1}} | {a:[7]} | {a:false} | {a:\"\"}", "{$unwind:\"$a\"}",
            "{a:5} | {a:{c:1}} | {a:7} | {a:false} | {a:\"\"}");
        done("{a:{b:{x:1, c:[1, 2], y:2}, z:3}, w:4} | {a:{b:{c:5}}} | {a:[{b:{c:[1]}}]} | {a:{b:[{c:[1]}]}} | {a:1}",
            "{$unwind:\"$a.b.c\"}",
            "{a:{b:{x:1, c:1, y:2}, z:3}, w:4} | {a:{b:{x:1, c:2, y:2}, z:3}, w:4} | {a:{b:{c:5}}}");
        done("{a:[1, 2]}", "{$unwind:\"$a.0\"}", "");
        done("{a:{\"0\":[1, 2]}}", "{$unwind:\"$a.0\"}", "{a:{\"0\":1}} | {a:{\"0\":2}}".replace("\"", ""));
        done("{a:{b:{c:{d:{e:{f:{g:{h:[8]}, z:9}}}}}}}", "{$unwind:\"$a.b.c.d.e.f.g.h\"}",
            "{a:{b:{c:{d:{e:{f:{g:{h:8}, z:9}}}}}}}");
        done("{a:[[1, 2], [3]]}", "{$unwind:\"$a\"}", "{a:[1, 2]} | {a:[3]}");
    }

    private static void unwindFaults() {
        for (String s : List.of("1", "null", "true", "{}", "[\"$a\"]", "\"\"", "\"a\"", "\"a.$b\"", "\" $a\"", "{a:\"$a\"}")) {
            fault(2, "{a:[1]}", "{$unwind:" + s + "}");
        }
    }

    private static void group() {
        done("{k:1, v:1} | {k:2, v:2} | {k:1L, v:3} | {v:4} | {k:null, v:5} | {k:\"1\", v:6}",
            "{$group:{by:\"$k\", n:{$count:null}, vs:{$push:\"$v\"}}}",
            "{by:1, n:2L, vs:[1, 3]} | {by:2, n:1L, vs:[2]} | {by:null, n:2L, vs:[4, 5]} | {by:\"1\", n:1L, vs:[6]}");
        done("{k:1L} | {k:1} | {v:1}", "{$group:{by:\"$k\"}}", "{by:1L} | {by:null}");
        done("{v:1} | {k:null}", "{$group:{by:\"$k\"}}", "{by:null}");
        done("{a:1} | {a:2}", "{$group:{by:7, n:{$count:null}}}", "{by:7, n:2L}");
        done("{a:1} | {a:2}", "{$group:{by:true}}", "{by:true}");
        done("{a:1} | {a:2}", "{$group:{by:{x:\"$a\"}}}", "{by:{x:\"$a\"}}");
        done("{k:{a:1, b:2}} | {k:{b:2, a:1}} | {k:{a:1L, b:2L}} | {k:[1]} | {k:[1L]} | {k:[1, 2]}",
            "{$group:{by:\"$k\", n:{$count:null}}}",
            "{by:{a:1, b:2}, n:2L} | {by:{b:2, a:1}, n:1L} | {by:[1], n:2L} | {by:[1, 2], n:1L}");
        done("{r:[{k:1}, {k:2}]} | {r:[{k:1L}, 5, {k:2}]} | {r:[{k:2}]} | {r:[]} | {r:[4]} | {r:4}",
            "{$group:{by:\"$r.k\", n:{$count:null}}}",
            "{by:[1, 2], n:2L} | {by:[2], n:1L} | {by:[], n:2L} | {by:null, n:1L}");
        done("", "{$group:{by:null, n:{$count:null}}}", "");
    }

    private static void groupWorks() {
        String docs = "{v:3} | {w:1} | {v:3L} | {v:1L} | {v:1} | {v:\"a\"} | {v:[0]} | {v:3}";
        String[] works = {"$min", "1L", "$max", "[0]", "$first", "3", "$last", "3", "$push", "[3, 3L, 1L, 1, \"a\", [0], 3]",
            "$addToSet", "[3, 1L, \"a\", [0]]", "$sum", "11L"};
        for (int i = 0; i < works.length; i += 2) {
            done(docs, "{$group:{by:null, x:{" + works[i] + ":\"$v\"}}}", "{by:null, x:" + works[i + 1] + "}");
        }
        done("{w:1} | {v:1} | {w:2}", "{$group:{by:0, a:{$first:\"$v\"}, b:{$last:\"$v\"}, c:{$min:\"$v\"}, d:{$max:\"$v\"}}}",
            "{by:0, a:null, b:null, c:1, d:1}");
        done("{w:1}", "{$group:{by:0, a:{$first:\"$v\"}, b:{$last:\"$v\"}, c:{$min:\"$v\"}, d:{$max:\"$v\"}, "
            + "e:{$push:\"$v\"}, f:{$addToSet:\"$v\"}, g:{$sum:\"$v\"}, h:{$count:null}}}",
            "{by:0, a:null, b:null, c:null, d:null, e:[], f:[], g:0L, h:1L}");
        done("{v:null} | {v:2}", "{$group:{by:0, c:{$min:\"$v\"}, e:{$push:\"$v\"}}}", "{by:0, c:null, e:[null, 2]}");
        done("{v:2} | {v:2L}", "{$group:{by:0, c:{$min:\"$v\"}, d:{$max:\"$v\"}}}", "{by:0, c:2, d:2}");
        done("{a:1} | {a:2}", "{$group:{by:0, c:{$push:true}, d:{$sum:5}, e:{$addToSet:{}}, f:{$push:null}}}",
            "{by:0, c:[true, true], d:10L, e:[{}], f:[null, null]}");
        done("{r:[{v:5}, {v:1}]} | {r:[{v:2}]} | {r:[{v:9}]} | {r:[{v:2L}]}",
            "{$group:{by:0, c:{$min:\"$r.v\"}, d:{$max:\"$r.v\"}, e:{$push:\"$r.v\"}, f:{$addToSet:\"$r.v\"}, g:{$sum:\"$r.v\"}}}",
            "{by:0, c:[2], d:[9], e:[[5, 1], [2], [9], [2L]], f:[[5, 1], [2], [9]], g:0L}");
    }

    private static void groupSums() {
        String plan = "{$group:{by:\"$k\", s:{$sum:\"$v\"}}}";
        done("{v:1} | {v:-5L} | {v:\"7\"} | {v:null} | {v:[3]} | {v:true}", plan, "{by:null, s:-4L}");
        done("{v:9223372036854775807L} | {v:1} | {v:-1}", plan, "{by:null, s:9223372036854775807L}");
        done("{v:-9223372036854775808L} | {v:-9223372036854775808L} | {v:9223372036854775807L} | {v:1}", plan,
            "{by:null, s:-9223372036854775808L}");
        done("{v:4294967295L} | {v:4294967295L} | {v:-1}", plan, "{by:null, s:8589934589L}");
        fault(4, "{v:9223372036854775807L} | {v:1}", plan);
        fault(4, "{v:-9223372036854775808L} | {v:-1}", plan);
        fault(4, "{v:9223372036854775807L} | {v:9223372036854775807L}", plan);
        fault(4, "{v:-9223372036854775808L} | {v:-9223372036854775808L}", plan);
        done("{k:1, v:9223372036854775807L} | {k:2, v:1}", plan, "{by:1, s:9223372036854775807L} | {by:2, s:1L}");
        // 4 goes ahead of 5, whichever group is too long.
        String tooLong = "{k:1, t:\"" + "x".repeat(900) + "\"}";
        fault(4, tooLong + " | " + tooLong + " | " + tooLong + " | {k:2, v:9223372036854775807L} | {k:2, v:1}",
            "{$group:{by:\"$k\", p:{$push:\"$t\"}, s:{$sum:\"$v\"}}}");
        fault(5, tooLong + " | " + tooLong + " | " + tooLong, "{$group:{by:\"$k\", p:{$push:\"$t\"}, s:{$sum:\"$v\"}}}");
    }

    private static void groupFaults() {
        for (String s : List.of("1", "\"$a\"", "[]", "[null]", "{}", "{n:{$count:null}}", "{n:{$count:null}, by:1}",
                "{By:1}", "{by:1, $n:{$count:null}}", "{by:1, \"a.b\":{$count:null}}", "{by:1, \"\":{$count:null}}",
                "{by:1, n:1}", "{by:1, n:[1]}", "{by:1, n:{}}", "{by:1, n:{$sum:1, $count:null}}", "{by:1, n:{sum:1}}",
                "{by:1, n:{$avg:1}}", "{by:1, n:{$Sum:1}}", "{by:1, n:{$count:1}}", "{by:1, n:{$count:\"$a\"}}",
                "{by:1, n:{$count:{}}}", "{by:1, n:{$summ:\"$\"}}", "{by:1, n:{$count:\"$\"}}", "{By:\"$\"}",
                "{by:1, $n:{$sum:\"$\"}}", "{by:1, m:1, n:{$sum:\"$\"}}")) {
            fault(2, "{a:1}", "{$group:" + s + "}");
        }
        for (String s : List.of("{by:\"$\"}", "{by:\"$a.\", n:1}", "{by:1, n:{$sum:\"$\"}, m:1}", "{by:1, n:{$min:\"$.a\"}}",
                "{by:1, n:{$max:\"$$a\"}}", "{by:1, n:{$first:\"$\"}}", "{by:1, n:{$last:\"$\"}}",
                "{by:1, n:{$push:\"$a.$b\"}}", "{by:1, n:{$addToSet:\"$\"}, $m:1}")) {
            fault(3, "{a:1}", "{$group:" + s + "}");
        }
    }

    private static void sort() {
        done("{a:3} | {a:1L} | {b:9} | {a:2} | {a:null}", "{$sort:{a:1}}", "{b:9} | {a:null} | {a:1L} | {a:2} | {a:3}");
        done("{a:3} | {a:1L} | {b:9} | {a:2} | {a:null}", "{$sort:{a:-1}}", "{a:3} | {a:2} | {a:1L} | {a:null} | {b:9}");
        done("{a:1, i:1} | {a:0, i:2} | {a:1L, i:3} | {a:0, i:4} | {a:1, i:5}", "{$sort:{a:1L}}",
            "{a:0, i:2} | {a:0, i:4} | {a:1, i:1} | {a:1L, i:3} | {a:1, i:5}");
        done("{a:1, i:1} | {a:0, i:2} | {a:1L, i:3} | {a:0, i:4} | {a:1, i:5}", "{$sort:{a:-1L}}",
            "{a:1, i:1} | {a:1L, i:3} | {a:1, i:5} | {a:0, i:2} | {a:0, i:4}");
        done("{a:1, b:1, c:2} | {a:1, b:2, c:1} | {a:0, b:1, c:1} | {a:1, b:2, c:0}", "{$sort:{a:-1, b:-1, c:1}}",
            "{a:1, b:2, c:0} | {a:1, b:2, c:1} | {a:1, b:1, c:2} | {a:0, b:1, c:1}");
        done("{a:1, b:1, c:1, d:1} | {a:1, b:1, c:1, d:2}", "{$sort:{a:1, b:1, c:1, d:-1}}",
            "{a:1, b:1, c:1, d:2} | {a:1, b:1, c:1, d:1}");
        // With items: least of 5 and 1, greatest the row itself.
        done("{a:2} | {a:[5, 1]} | {a:[]} | {a:[[0]]}", "{$sort:{a:1}}", "{a:[5, 1]} | {a:2} | {a:[]} | {a:[[0]]}");
        done("{a:2} | {a:[5, 1]} | {a:[true]} | {a:[]} | {a:[[0]]}", "{$sort:{a:-1}}",
            "{a:[true]} | {a:[[0]]} | {a:[5, 1]} | {a:[]} | {a:2}");
        done("{a:[{b:2}, {b:7}], i:1} | {a:{b:3}, i:2} | {a:[4], i:3} | {a:[{b:0}, {c:1}], i:4}", "{$sort:{\"a.b\":1}}",
            "{a:[4], i:3} | {a:[{b:0}, {c:1}], i:4} | {a:[{b:2}, {b:7}], i:1} | {a:{b:3}, i:2}");
        done("{a:[{b:2}, {b:7}], i:1} | {a:{b:3}, i:2} | {a:[4], i:3} | {a:[{b:0}, {c:1}], i:4}", "{$sort:{\"a.b\":-1}}",
            "{a:[{b:2}, {b:7}], i:1} | {a:{b:3}, i:2} | {a:[{b:0}, {c:1}], i:4} | {a:[4], i:3}");
        done("", "{$sort:{a:1}}", "");
    }

    private static void sortFaults() {
        for (String s : List.of("1", "\"a\"", "[1]", "{}", "{a:1, b:1, c:1, d:1, e:1}", "{\"\":1, b:1, c:1, d:1, e:1}",
                "{a:0}", "{a:2}", "{a:-2L}", "{a:true}", "{a:\"1\"}", "{a:null}", "{a:4294967297L}", "{a:1, b:2, \"\":1}",
                "{a:{}}", "{\"\":2}")) {
            fault(2, "{a:1}", "{$sort:" + s + "}");
        }
        for (String s : List.of("{\"\":1}", "{\".\":1}", "{\"a.\":-1}", "{\".a\":1}", "{\"a..b\":1}", "{$a:1}",
                "{\"a.$b\":1}", "{a:1, $b:1, c:2}", "{a.b.c.d.e.f.g.h.i:1}")) {
            fault(3, "{a:1}", "{$sort:" + s + "}");
        }
    }

    /** Values from the least to the greatest: in this order they must come, whatever order they stood in. */
    private static void order() {
        List<String> values = List.of("null", "-9223372036854775808L", "-2147483648", "-1", "0", "1", "255", "256",
            "2147483647", "4294967296L", "9223372036854775807L", "\"\"", "\"\0\"", "\"\0a\"", "\"a\"", "\"a\0\"", "\"aa\"",
            "\"b\"", "\"\u007f\"", "\"\u00c2\u0080\"", "\"\u00f4\u008f\u00bf\u00bf\"", "{}", "{a:null}", "{b:null}",
            "{\"\":1}", "{a:1}", "{a:1, a2:null}", "{a:1, b:0}", "{a:2}", "{aa:0}", "{b:0}", "{a:\"\"}", "{a:{}}",
            "{a:[]}", "{a:false}", "{a:true}", "[]", "[null]", "[null, null]", "[1]", "[1, null]", "[1, 2]", "[2]",
            "[\"\"]", "[{}]", "[[]]", "[[], 1]", "[[1]]", "[false]", "[true]", "false", "true");
        StringBuilder up = new StringBuilder("{}");
        StringBuilder down = new StringBuilder();
        StringBuilder mixed = new StringBuilder();
        for (int i = 0; i < values.size(); i++) {
            // Inside a document, as the items of a row would be leaves, too.
            up.append(" | {a:{v:").append(values.get(i)).append("}}");
            down.append("{a:{v:").append(values.get(values.size() - 1 - i)).append("}} | ");
            mixed.append("{a:{v:").append(values.get(i * 23 % values.size())).append("}} | ");
        }
        done(mixed + "{}", "{$sort:{a:1}}", up.toString());
        done(up.toString(), "{$sort:{a:-1}}", down + "{}");
        for (int i = 0; i < values.size(); i++) {
            for (int j = 0; j < values.size(); j++) {
                Run x = new Run();
                put(x, 0, "{v:" + values.get(i) + "}");
                put(x, 0, "{v:" + values.get(j) + "}");
                stage(x, "{$group:{by:\"$v\", a:{$min:\"$v\"}, b:{$max:\"$v\"}}}");
                due("groups of " + values.get(i) + " and " + values.get(j), x.many(0, 0), i == j ? 1 : 2);
            }
        }
    }

    private static void skipAndLimit() {
        String docs = "{a:1} | {a:2} | {a:3}";
        done(docs, "{$skip:0}", docs);
        done(docs, "{$skip:1}", "{a:2} | {a:3}");
        done(docs, "{$skip:2L}", "{a:3}");
        done(docs, "{$skip:3}", "");
        done(docs, "{$skip:9223372036854775807L}", "");
        done(docs, "{$limit:0}", "");
        done(docs, "{$limit:1L}", "{a:1}");
        done(docs, "{$limit:3}", docs);
        done(docs, "{$limit:4294967296L}", docs);
        done("", "{$limit:1}", "");
        for (String s : List.of("-1", "-1L", "-9223372036854775808L", "null", "true", "\"1\"", "{}", "[]", "[1]")) {
            fault(2, docs, "{$skip:" + s + "}");
            fault(2, docs, "{$limit:" + s + "}");
        }
    }

    private static void lookup() {
        String stage = "{$lookup:{here:\"a\", there:\"b\", as:\"o\"}}";
        found("{a:1, i:1} | {a:2}", "{b:1L, j:1} | {b:3} | {b:1, j:2}", stage,
            "{a:1, i:1, o:[{b:1L, j:1}, {b:1, j:2}]} | {a:2, o:[]}");
        found("{o:5, a:1} | {a:2, o:{x:1}, z:3} | {a:3}", "{b:1} | {b:2}", stage,
            "{o:[{b:1}], a:1} | {a:2, o:[{b:2}], z:3} | {a:3, o:[]}");
        found("{a:1}", "", stage, "{a:1, o:[]}");
        found("", "{b:1}", stage, "");
        // With items on both sides; the row itself is a leaf, too.
        found("{a:[1, 2]}", "{b:2} | {b:[2, 3]} | {b:[[1, 2]]} | {b:[1L, 2L]} | {b:[[1, 2, 3]]} | {b:3}", stage,
            "{a:[1, 2], o:[{b:2}, {b:[2, 3]}, {b:[[1, 2]]}, {b:[1L, 2L]}]}");
        // MISSING is NOTHING, on both sides.
        found("{a:null} | {c:1} | {a:[]} | {a:[null]}", "{b:null} | {d:1} | {b:[]} | {b:[null, 1]} | {b:0}", stage,
            "{a:null, o:[{b:null}, {d:1}, {b:[null, 1]}]} | {c:1, o:[{b:null}, {d:1}, {b:[null, 1]}]}"
            + " | {a:[], o:[{b:[]}]} | {a:[null], o:[{b:null}, {d:1}, {b:[null, 1]}]}");
        // No leaf at all is NOTHING, on both sides.
        found("{a:[1]} | {a:{x:null}} | {a:[{x:1}]}", "{b:[2]} | {b:{y:null}} | {b:[{y:1}]}",
            "{$lookup:{here:\"a.x\", there:\"b.y\", as:\"o\"}}",
            "{a:[1], o:[{b:[2]}, {b:{y:null}}]} | {a:{x:null}, o:[{b:[2]}, {b:{y:null}}]} | {a:[{x:1}], o:[{b:[{y:1}]}]}");
        found("{a:1}", "{b:1, o:2}", "{$lookup:{here:\"a\", there:\"b\", as:\"a\"}}", "{a:[{b:1, o:2}]}");
        found("{a:\"x\"} | {a:{k:1}} | {a:true}", "{b:true} | {b:{k:1L}} | {b:\"x\"} | {b:{k:1, l:1}}", stage,
            "{a:\"x\", o:[{b:\"x\"}]} | {a:{k:1}, o:[{b:{k:1L}}]} | {a:true, o:[{b:true}]}");
        found("{i:1}", "{b:null}", "{$lookup:{here:\"i\", there:\"i\", as:\"\u00c3\u00a9\"}}", "{i:1, \"\u00c3\u00a9\":[]}");
    }

    private static void lookupFaults() {
        for (String s : List.of("1", "\"a\"", "[\"a\", \"b\", \"c\"]", "{}", "{here:\"a\", there:\"b\"}",
                "{here:\"a\", there:\"b\", as:\"c\", more:1}", "{there:\"a\", here:\"b\", as:\"c\"}",
                "{here:\"a\", as:\"b\", there:\"c\"}", "{Here:\"a\", there:\"b\", as:\"c\"}",
                "{here:1, there:\"b\", as:\"c\"}", "{here:\"a\", there:null, as:\"c\"}", "{here:\"a\", there:\"b\", as:{}}",
                "{here:\"a\", there:\"b\", as:\"\"}", "{here:\"a\", there:\"b\", as:\"c.d\"}",
                "{here:\"a\", there:\"b\", as:\"$c\"}", "{here:\"a\", there:\"b\", as:\"c\0\"}",
                "{here:\"\", there:\"b\", as:\"\"}", "{here:\"$a\", there:1, as:\"c\"}",
                "{here:\"a\", there:\"$b\", as:\"c.\"}")) {
            fault(2, "{a:1}", "{$lookup:" + s + "}");
        }
        for (String bad : List.of("", ".", "a.", ".a", "a..b", "$a", "a.$b", "a\0", "a.b.c.d.e.f.g.h.i")) {
            fault(3, "{a:1}", "{$lookup:{here:\"" + bad + "\", there:\"b\", as:\"c\"}}");
            fault(3, "{a:1}", "{$lookup:{here:\"a\", there:\"" + bad + "\", as:\"c\"}}");
        }
    }

    /** Which leaves a path has, by what can be found for them. */
    private static void leaves() {
        leaf("{a:[10, 20, 30]}", "a.1", "20", true);
        leaf("{a:[10, 20, 30]}", "a.1", "10", false);
        leaf("{a:[10, 20, 30]}", "a.01", "20", false);
        leaf("{a:[10, 20, 30]}", "a.00", "10", false);
        leaf("{a:[10, 20, 30]}", "a.0", "10", true);
        leaf("{a:[10, 20, 30]}", "a.3", "null", true);
        leaf("{a:[10, 20, 30]}", "a.4294967297", "20", false);
        leaf("{a:[10, 20, 30]}", "a.18446744073709551617", "20", false);
        leaf("{a:[10, 20, 30]}", "a.-1", "30", false);
        leaf("{a:[10, 20, 30]}", "a.1x", "20", false);
        leaf("{a:[10, 20, 30]}", "a.1", "null", false);
        leaf("{a:[0, 1, 2, 3, 4, 5, 6, 7, 8, 9, 10]}", "a.10", "10", true);
        leaf("{a:[0, 1, 2, 3, 4, 5, 6, 7, 8, 9, 10]}", "a.:", "10", false);
        leaf("{a:[{\"1\":5}, {\"1\":6}]}", "a.1", "5", true);
        leaf("{a:[{\"1\":5}, {\"1\":6}]}", "a.1", "6", true);
        leaf("{a:[{\"1\":5}, {\"1\":6}]}", "a.1", "{\"1\":6}", true);
        leaf("{a:[{\"1\":5}, {\"1\":6}]}", "a.1", "{\"1\":5}", false);
        leaf("{a:[{b:1}, {b:2}, 3, [{b:4}], {c:5}]}", "a.b", "2", true);
        leaf("{a:[{b:1}, {b:2}, 3, [{b:4}], {c:5}]}", "a.b", "4", false);
        leaf("{a:[{b:1}, {b:2}, 3, [{b:4}], {c:5}]}", "a.3.b", "4", true);
        leaf("{a:[{b:1}, {b:2}, 3, [{b:4}], {c:5}]}", "a.b", "null", true);
        leaf("{a:[{b:1}, {b:2}, 3, [{b:4}]]}", "a.b", "null", false);
        leaf("{a:[[7, 8]]}", "a.0.1", "8", true);
        leaf("{a:[[7, 8]]}", "a.0", "8", true);
        leaf("{a:[[7, 8]]}", "a.0", "[7, 8]", true);
        leaf("{a:[[[7]]]}", "a.0", "7", false);
        leaf("{a:[[7, 8]]}", "a", "7", false);
        leaf("{a:{b:[{c:[{d:1}, {d:2}]}, {c:{d:3}}]}}", "a.b.c.d", "2", true);
        leaf("{a:{b:[{c:[{d:1}, {d:2}]}, {c:{d:3}}]}}", "a.b.c.d", "3", true);
        leaf("{a:1}", "a.b", "null", true);
        leaf("{a:null}", "a.b", "null", true);
        leaf("{a:\"x\"}", "a.0", "null", true);
        leaf("{\"0\":[{\"0\":[{\"0\":1}]}]}", "0.0.0.0.0", "1", true);
        leaf("{\"0\":[{\"0\":[{\"0\":1}]}]}", "0.0.0.0", "1", true);
        leaf("{\"0\":[{\"0\":[{\"0\":1}]}]}", "0.0.0", "1", true);
        leaf("{\"0\":[{\"0\":[{\"0\":1}]}]}", "0.0", "1", false);
    }

    private static void leaf(String document, String path, String value, boolean due) {
        Run x = new Run();
        put(x, 0, "{k:" + value + "}");
        put(x, 1, document);
        due("lookup", stage(x, "{$lookup:{here:\"k\", there:\"" + path + "\", as:\"o\"}}"), 1);
        due("leaf " + value + " of " + path + " at " + document, !show(x, 0).endsWith("o:[]}"), due);
        x.swap();
        due("lookup", stage(x, "{$lookup:{here:\"" + path + "\", there:\"k\", as:\"o\"}}"), 1);
        due("leaf " + value + " of " + path + " here at " + document, !show(x, 0).endsWith("o:[]}"), due);
    }

    private static void pathFaults() {
        for (String bad : List.of("", ".", "..", "a.", ".a", "a..b", "$a", "a.$", "a.b.$c", "\0", "a\0", "a.\0b",
                "a.b.c.d.e.f.g.h.i")) {
            fault(3, "{a:1}", "{$project:{x:\"$" + bad + "\"}}");
            fault(3, "{a:1}", "{$unwind:\"$" + bad + "\"}");
            fault(3, "{a:1}", "{$group:{by:\"$" + bad + "\"}}");
            fault(3, "{a:1}", "{$group:{by:1, x:{$sum:\"$" + bad + "\"}}}");
        }
        for (String good : List.of("a", " ", "a.b.c.d.e.f.g.h", "a$", "a.b$c", "0", "00", "\u00c3\u00a9", "a b.c")) {
            done("{q:1}", "{$project:{x:\"$" + good + "\"}}", "{}");
            done("{q:1}", "{$unwind:\"$" + good + "\"}", "");
            done("{q:1}", "{$sort:{\"" + good + "\":1}}", "{q:1}");
        }
    }

    private static void roomFaults() {
        // More than 200 documents.
        Run x = new Run();
        for (int i = 0; i < 20; i++) {
            put(x, 0, "{i:" + i + ", a:[0, 1, 2, 3, 4, 5, 6, 7, 8, 9]}");
        }
        due("200 documents", stage(x, "{$unwind:\"$a\"}"), 200);
        stage(x, "{$project:{i:true, a:[1, 2]}}");
        stage(x, "{$limit:101}");
        due("202 documents", stage(x, "{$unwind:\"$a\"}"), -5);
        due("belt 0 stays", x.many(0, 0), 101);
        stage(x, "{$skip:1}");
        due("200 documents again", stage(x, "{$unwind:\"$a\"}"), 200);

        // A document of more than 2,000 bytes.
        String half = "\"" + "x".repeat(960) + "\"";
        done("{a:" + half + "}", "{$project:{b:\"$a\", c:\"" + "y".repeat(1019) + "\"}}",
            "{b:" + half + ", c:\"" + "y".repeat(1019) + "\"}");
        fault(5, "{a:" + half + "}", "{$project:{b:\"$a\", c:\"" + "y".repeat(1020) + "\"}}");
        fault(5, "{i:1} | {a:" + half + "}", "{$project:{b:\"$a\", c:\"" + "y".repeat(1020) + "\"}}");
        Run y = new Run();
        put(y, 0, "{a:\"" + "x".repeat(1949) + "\"}");
        put(y, 1, "{}");
        due("2,000 bytes by a row", stage(y, "{$lookup:{here:\"b\", there:\"b\", as:\"row12345678901234567890\"}}"), 1);
        due("2,000 bytes by a row", y.size(0, 0), 2000);
        due("2,001 bytes by a row", stage(y, "{$lookup:{here:\"b\", there:\"b\", as:\"o\"}}"), -5);
        due("belt 0 stays", y.size(0, 0), 2000);

        // All of them more than 40,000 bytes: 100 documents of 400 bytes.
        Run z = new Run();
        for (int i = 0; i < 100; i++) {
            put(z, 0, "{a:" + i + "}");
        }
        due("40,000 bytes", stage(z, "{$project:{a:\"$a\", t:\"" + "t".repeat(380) + "\"}}"), 100);
        due("40,000 bytes", z.many(0, 1), 40000);
        due("40,100 bytes", stage(z, "{$project:{a:\"$a\", t:\"" + "t".repeat(381) + "\"}}"), -5);
        due("belt 0 stays", z.many(0, 1), 40000);
        due("40,000 bytes stay sorted", stage(z, "{$sort:{a:-1}}"), 100);
        due("40,000 bytes stay sorted", z.byteAt(0, 0, 7), 99);

        // More than 16 deep.
        String deep14 = nested(14, "{", "a:", "1", "}");
        String deep15 = nested(15, "{", "a:", "1", "}");
        Run d = new Run();
        put(d, 0, "{k:1}");
        put(d, 1, deep14);
        due("16 deep by a row", stage(d, "{$lookup:{here:\"x\", there:\"x\", as:\"o\"}}"), 1);
        d.clear(0);
        put(d, 0, "{k:1}");
        put(d, 1, deep15);
        due("17 deep by a row", stage(d, "{$lookup:{here:\"x\", there:\"x\", as:\"o\"}}"), -5);
        due("belt 0 stays", show(d, 0), "{k:1}");
        done("{a:" + deep14 + "}", "{$group:{by:1, p:{$push:\"$a\"}}}", "{by:1, p:[" + deep14 + "]}");
        fault(5, "{a:" + deep15 + "}", "{$group:{by:1, p:{$push:\"$a\"}}}");
        fault(5, "{a:" + deep15 + "}", "{$group:{by:1, p:{$addToSet:\"$a\"}}}");
        done("{a:" + deep15 + "}", "{$group:{by:\"$a\", p:{$max:\"$a\"}}}", "{by:" + deep15 + ", p:" + deep15 + "}");
    }

    // ---- Promises 5 to 9

    private static void many() {
        Run x = twoBelts();
        due("many", x.many(0, 0), 2);
        due("many", x.many(0, 1), 24);
        due("many", x.many(1, 0), 1);
        due("many", x.many(1, 1), 16);
        for (int no : new int[] {-1, 2, Integer.MIN_VALUE, Integer.MAX_VALUE}) {
            due("many of belt " + no, x.many(no, 0), -1);
            due("many of what " + no, x.many(0, no), -1);
        }
    }

    private static void size() {
        Run x = twoBelts();
        due("size", x.size(0, 0), 12);
        due("size", x.size(0, 1), 12);
        due("size", x.size(1, 0), 16);
        due("size", x.size(1, 1), -1);
        for (int no : new int[] {-1, 2, 200, 201, Integer.MIN_VALUE, Integer.MAX_VALUE}) {
            due("size of document " + no, x.size(0, no), -1);
            due("size on belt " + no, x.size(no, 0), -1);
        }
    }

    private static void byteAt() {
        Run x = twoBelts();
        dueBytes("byteAt", bytes(x, 0, 1), Tree.encode(Tree.doc("{b:-2}")));
        dueBytes("byteAt", bytes(x, 1, 0), Tree.encode(Tree.doc("{c:3L}")));
        due("byteAt, without a sign", x.byteAt(0, 1, 8), 255);
        due("byteAt, the first", x.byteAt(0, 1, 0), 12);
        due("byteAt, the last", x.byteAt(0, 1, 11), 0);
        for (int no : new int[] {-1, 12, 13, 2000, Integer.MIN_VALUE, Integer.MAX_VALUE}) {
            due("byteAt of byte " + no, x.byteAt(0, 0, no), -1);
            due("byteAt of document " + no, x.byteAt(0, no, 0), -1);
            due("byteAt of belt " + no, x.byteAt(no, 0, 0), -1);
        }
        due("byteAt of document 2", x.byteAt(0, 2, 0), -1);
        due("byteAt of belt 2", x.byteAt(2, 0, 0), -1);
        stage(x, "{$limit:1}");
        due("byteAt of a document that is gone", x.byteAt(0, 1, 0), -1);
        due("size of a document that is gone", x.size(0, 1), -1);
        x.clear(1);
        due("byteAt of a document that is gone", x.byteAt(1, 0, 0), -1);
    }

    private static void clear() {
        Run x = twoBelts();
        for (int no : new int[] {-1, 2, Integer.MIN_VALUE, Integer.MAX_VALUE}) {
            due("clear of belt " + no, x.clear(no), -1);
        }
        due("nothing is cleared", x.many(0, 0) + x.many(1, 0), 3);
        due("clear", x.clear(0), 2);
        due("it has none", x.many(0, 0), 0);
        due("it has no bytes", x.many(0, 1), 0);
        due("it has no document", x.size(0, 0), -1);
        due("the other stays", show(x, 1), "{c:3L}");
        due("clear again", x.clear(0), 0);
        send(x, Tree.encode(Tree.doc("{}")));
        due("clear", x.clear(1), 1);
        due("the tape stays", x.put(0, 5), 1);
    }

    private static void swap() {
        Run x = twoBelts();
        send(x, Tree.encode(Tree.doc("{}")));
        x.swap();
        due("swap", show(x, 0), "{c:3L}");
        due("swap", show(x, 1), "{a:1} | {b:-2}");
        due("the tape stays", x.put(1, 5), 3);
        due("a stage is done on belt 0", stage(x, "{$limit:0}"), 0);
        due("and not on belt 1", show(x, 1), "{a:1} | {b:-2} | {}");
        x.swap();
        due("swap again", show(x, 0), "{a:1} | {b:-2} | {}");
        due("swap again", show(x, 1), "");
    }

    private static Run twoBelts() {
        Run x = new Run();
        put(x, 0, "{a:1}");
        put(x, 0, "{b:-2}");
        put(x, 1, "{c:3L}");
        return x;
    }
}
