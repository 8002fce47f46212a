/** The faults: which of them is answered when there are more, and the room that fault 5 is for, to the byte. */
public final class FaultBoundaryTest extends Bench {
    private static final String MOST = "9223372036854775807L";
    private static final String OVER = "{a:9223372036854775807L} | {a:1}";

    public static void main(String[] args) {
        noDocumentFirst();
        oneAheadOfTwo();
        howManyElementsFirst();
        projectElementsInTurn();
        groupElementsInTurn();
        sortElementsInTurn();
        lookupTwoAheadOfThree();
        threeAheadOfFourAndFive();
        fourAheadOfFive();
        withoutDocuments();
        documentsByUnwind();
        bytesByProject();
        bytesByGroup();
        bytesByLookup();
        bytesInTheLastDocument();
        depthByGroup();
        depthByLookup();
        depthThatStays();
        allBytesByProject();
        allBytesByUnwind();
        allBytesByGroup();
        allBytesByLookup();
        fullBeltsStay();
        belt0StaysAfterEach();
        end("each boundary of the faults holds");
    }

    // ---- which comes first

    private static void noDocumentFirst() {
        says("-1 when they are no document; the fault, less 10");
        Run x = with("{a:1}", "");
        due("no document, two elements", stage(x, unhex("0b000000 0a6100 0a6100 00")), -1);
        due("two elements", stage(x, unhex("0b000000 0a6100 0a6200 00")), -9);
        due("no document, a wrong value", stage(x, "{$project:{a:1, a:1, $b:1}}"), -1);
        due("a wrong value", stage(x, "{$project:{a:1, b:1, $b:1}}"), -8);
        due("no document, too deep", stage(x, "{$project:{a:" + deep(15) + "}}"), -1);
        due("as deep as a stage can be", stage(x, "{$project:{a:" + deep(14) + "}}"), 1);
        due("belt 0", show(x, 0), "{a:" + deep(14) + "}");
    }

    private static void oneAheadOfTwo() {
        says("FAULTS, the first of these: 1: .. 2: ..");
        fault(1, "{a:1}", "{$skip:-1, $limit:-1}");
        fault(1, "{a:1}", "{$unwind:\"a\", $sort:{}}");
        fault(1, "{a:1}", "{$nothing:{}}");
        fault(2, "{a:1}", "{$skip:-1}");
        fault(1, "{a:1}", "{$unwind:\"$\", $b:1}");
        fault(1, OVER, "{$group:{by:1, s:{$sum:\"$a\"}}, x:1}");
    }

    private static void howManyElementsFirst() {
        says("how many elements there are first");
        // With the right number of elements the same names and values are fault 3.
        fault(3, "{a:1}", "{$sort:{\"\":1, b:1, c:1, d:1}}");
        fault(2, "{a:1}", "{$sort:{\"\":1, b:1, c:1, d:1, e:1}}");
        fault(3, "{a:1}", "{$lookup:{here:\"\", there:\"b\", as:\"o\"}}");
        fault(2, "{a:1}", "{$lookup:{here:\"\", there:\"b\", as:\"o\", more:1}}");
        fault(2, "{a:1}", "{$lookup:{here:\"\", there:\"b\"}}");
        fault(3, "{a:1}", "{$group:{by:1, n:{$sum:\"$\"}}}");
        fault(2, "{a:1}", "{$group:{by:1, n:{$sum:\"$\", $min:\"$\"}}}");
    }

    private static void projectElementsInTurn() {
        says("then in a .. $project one element after the other, 2 and 3 as they come");
        fault(2, "{a:1}", "{$project:{$a:1, b:\"$\"}}");
        fault(3, "{a:1}", "{$project:{b:\"$\", $a:1}}");
        fault(2, "{a:1}", "{$project:{x:true, $a:1, y:true, b:\"$\"}}");
        fault(3, "{a:1}", "{$project:{x:true, b:\"$\", y:true, $a:1}}");
        fault(2, "{a:1}", "{$project:{$a:\"$\"}}");
        fault(2, "{a:1}", "{$project:{\"\":\"$\", b:\"$\"}}");
    }

    private static void groupElementsInTurn() {
        says("then in a $group .. one element after the other, 2 and 3 as they come");
        fault(3, "{a:1}", "{$group:{by:\"$\", n:1}}");
        fault(2, "{a:1}", "{$group:{By:\"$\", n:1}}");
        fault(2, "{a:1}", "{$group:{by:1, n:1, m:{$sum:\"$\"}}}");
        fault(3, "{a:1}", "{$group:{by:1, m:{$sum:\"$\"}, n:1}}");
        fault(2, "{a:1}", "{$group:{by:1, $n:{$sum:\"$\"}, m:{$sum:\"$\"}}}");
        fault(3, "{a:1}", "{$group:{by:1, m:{$sum:\"$\"}, $n:{$sum:1}}}");
        fault(2, "{a:1}", "{$group:{by:1, l:{$count:1}, m:{$sum:\"$\"}}}");
        fault(3, "{a:1}", "{$group:{by:1, m:{$sum:\"$\"}, l:{$count:1}}}");
        fault(2, "{a:1}", "{$group:{by:1, l:{$avg:\"$\"}, m:{$sum:\"$\"}}}");
    }

    private static void sortElementsInTurn() {
        says("then in a .. $sort .. one element after the other, 2 and 3 as they come");
        fault(2, "{a:1}", "{$sort:{a:2, \"\":1}}");
        fault(3, "{a:1}", "{$sort:{\"\":1, a:2}}");
        fault(2, "{a:1}", "{$sort:{x:1, a:2, y:1, \"\":1}}");
        fault(3, "{a:1}", "{$sort:{x:1, \"\":1, y:1, a:2}}");
        // In one element both: the one that is told first.
        fault(2, "{a:1}", "{$sort:{\"\":2}}");
    }

    private static void lookupTwoAheadOfThree() {
        says("FAULTS, the first of these: .. 2: .. 3: ..");
        fault(2, "{a:1}", "{$lookup:{here:\"\", there:1, as:\"o\"}}");
        fault(2, "{a:1}", "{$lookup:{here:\"$a\", there:\"b\", as:1}}");
        fault(2, "{a:1}", "{$lookup:{here:\"\", there:\"\", as:\"\"}}");
        fault(2, "{a:1}", "{$lookup:{here:\"a\", there:\"b.\", as:\"a.b\"}}");
        fault(2, "{a:1}", "{$lookup:{here:\"\", There:\"b\", as:\"o\"}}");
        fault(3, "{a:1}", "{$lookup:{here:\"\", there:\"b\", as:\"o\"}}");
        fault(3, "{a:1}", "{$lookup:{here:\"a\", there:\"\", as:\"o\"}}");
    }

    private static void threeAheadOfFourAndFive() {
        says("FAULTS, the first of these: .. 3: .. 4: .. 5: ..");
        String sum = "s:{$sum:\"$a\"}";
        fault(4, OVER, "{$group:{by:1, " + sum + "}}");
        fault(3, OVER, "{$group:{by:1, " + sum + ", n:{$push:\"$\"}}}");
        fault(2, OVER, "{$group:{by:1, " + sum + ", n:1}}");
        String push = "p:{$push:" + text(1000) + "}";
        fault(5, OVER, "{$group:{by:1, " + push + "}}");
        fault(3, OVER, "{$group:{by:1, " + push + ", n:{$push:\"$\"}}}");
        fault(2, OVER, "{$group:{by:1, " + push + ", n:1}}");
        String half = "{a:" + text(1000) + "}";
        fault(5, half, "{$project:{a:true, b:" + text(990) + "}}");
        fault(3, half, "{$project:{a:true, b:" + text(990) + ", c:\"$\"}}");
        fault(2, half, "{$project:{a:true, b:" + text(990) + ", $c:1}}");
    }

    private static void fourAheadOfFive() {
        says("FAULTS, the first of these: .. 4: .. 5: ..");
        String sum = "s:{$sum:\"$a\"}";
        String push = "p:{$push:" + text(1000) + "}";
        fault(4, OVER, "{$group:{by:1, " + sum + ", " + push + "}}");
        fault(4, OVER, "{$group:{by:1, " + push + ", " + sum + "}}");
        // In different groups, in either order.
        String docs = "{k:1, a:" + MOST + "} | {k:1, a:1}";
        String tooLong = "{k:2, t:" + text(700) + "} | {k:2, t:" + text(700) + "} | {k:2, t:" + text(700) + "}";
        String plan = "{$group:{by:\"$k\", p:{$push:\"$t\"}, s:{$sum:\"$a\"}}}";
        fault(4, docs + " | " + tooLong, plan);
        fault(4, tooLong + " | " + docs, plan);
        fault(5, tooLong + " | {k:1, a:1}", plan);
        fault(4, docs + " | {k:2}", plan);
    }

    private static void withoutDocuments() {
        says("FAULTS, the first of these");
        fault(1, "", "{$no:1}");
        fault(2, "", "{$project:{}}");
        fault(3, "", "{$project:{a:\"$\"}}");
        // 4 and 5 are of documents, and there are none.
        done("", "{$group:{by:1, s:{$sum:" + MOST + "}}}", "");
        done("", "{$project:{a:" + text(1900) + "}}", "");
    }

    // ---- 5: more than 200 documents

    private static void documentsByUnwind() {
        says("5: there would be more than 200 documents");
        for (int count : new int[] {200, 201, 202, 210}) {
            Run x = new Run();
            put(x, 0, "{a:" + numbers(count) + "}");
            if (count <= 200) {
                due("one row of " + count, stage(x, "{$unwind:\"$a\"}"), 200);
            } else {
                refuse(x, 5, "{$unwind:\"$a\"}");
            }
        }
        // 198 that stay, and a row of two or three.
        for (int items = 2; items <= 3; items++) {
            for (int turn = 0; turn < 2; turn++) {
                Run x = numbered(198);
                put(x, 0, "{b:" + numbers(items) + "}");
                if (turn == 1) {
                    stage(x, "{$sort:{i:1}}");
                }
                if (items == 2) {
                    due("198 and 2", stage(x, "{$unwind:\"$b\"}"), 200);
                } else {
                    refuse(x, 5, "{$unwind:\"$b\"}");
                }
            }
        }
        // 201 documents of which one is taken away are 200.
        Run x = new Run();
        put(x, 0, "{a:" + numbers(200) + "}");
        put(x, 0, "{a:null}");
        put(x, 0, "{a:[]}");
        put(x, 0, "{}");
        due("200 and none of three", stage(x, "{$unwind:\"$a\"}"), 200);
    }

    // ---- 5: one of more than 2,000 bytes

    private static void bytesByProject() {
        says("or one of them has more than 2,000 bytes");
        String a = "{a:" + text(1000) + "}";
        // {a:1,000 characters, b:n characters} has 1,021 + n bytes.
        Run x = with(a, "");
        due("2,000 bytes", stage(x, "{$project:{a:true, b:" + text(979) + "}}"), 1);
        due("2,000 bytes", x.size(0, 0), 2000);
        refuse(with(a, ""), 5, "{$project:{a:true, b:" + text(980) + "}}");
        refuse(with(a, ""), 5, "{$project:{a:true, b:" + text(981) + "}}");
        refuse(with(a, ""), 5, "{$project:{a:true, b:true, c:" + text(980) + "}}");
        // One value twice.
        String b = "{a:" + text(988) + "}";
        Run y = with(b, "");
        due("2,000 bytes", stage(y, "{$project:{a:true, b:\"$a\", c:null}}"), 1);
        due("2,000 bytes", y.size(0, 0), 2000);
        refuse(with(b, ""), 5, "{$project:{a:true, b:\"$a\", cc:null}}");
    }

    private static void bytesByGroup() {
        says("or one of them has more than 2,000 bytes");
        // {by:1, p:[t, t]} of two texts of n characters has 13 + 3 + 5 + 2 * (8 + n) bytes.
        for (int n = 981; n <= 982; n++) {
            String docs = "{t:" + text(n) + "} | {t:" + text(n + 1) + "}";
            String plan = "{$group:{by:1, p:{$push:\"$t\"}}}";
            if (n == 981) {
                Run x = with(docs, "");
                due("2,000 bytes", stage(x, plan), 1);
                due("2,000 bytes", x.size(0, 0), 2000);
            } else {
                fault(5, docs, plan);
                fault(5, "{t:" + text(982) + "} | {t:" + text(982) + "}", plan);
            }
        }
        // $addToSet leaves out what would be too much.
        String twice = "{t:" + text(1000) + "} | {t:" + text(1000) + "}";
        fault(5, twice, "{$group:{by:1, p:{$push:\"$t\"}}}");
        done(twice, "{$group:{by:1, p:{$addToSet:\"$t\"}}}", "{by:1, p:[" + text(1000) + "]}");
        // {by:n characters, p:n characters} has 22 + 2 * n bytes.
        for (String work : new String[] {"$min", "$max", "$first", "$last"}) {
            Run x = with("{t:" + text(989) + "}", "");
            refuse(x, 5, "{$group:{by:\"$t\", pq:{" + work + ":\"$t\"}}}");
            due("2,000 bytes", stage(x, "{$group:{by:\"$t\", p:{" + work + ":\"$t\"}}}"), 1);
            due("2,000 bytes", x.size(0, 0), 2000);
        }
    }

    private static void bytesByLookup() {
        says("or one of them has more than 2,000 bytes");
        // {a:n characters} and a row of one empty document: 13 + n + 3 + 5 + 8 bytes.
        for (int n = 1970; n <= 1973; n++) {
            Run x = with("{a:" + text(n) + "}", "{}");
            String stage = "{$lookup:{here:\"k\", there:\"k\", as:\"o\"}}";
            if (n <= 1971) {
                due("taken", stage(x, stage), 1);
                due("taken", x.size(0, 0), 29 + n);
            } else {
                refuse(x, 5, stage);
            }
        }
        // An empty row alone.
        String stage = "{$lookup:{here:\"a\", there:\"a\", as:\"o\"}}";
        Run x = with("{a:" + text(1979) + "}", "");
        due("2,000 bytes", stage(x, stage), 1);
        due("2,000 bytes", x.size(0, 0), 2000);
        refuse(with("{a:" + text(1980) + "}", ""), 5, stage);
        // In place of its own it may be as long again.
        Run y = with("{o:" + text(1900) + ", a:1}", "{a:1, t:" + text(1900) + "}");
        due("in place of its own", stage(y, stage), 1);
        refuse(with("{p:" + text(1900) + ", a:1}", "{a:1, t:" + text(1900) + "}"), 5, stage);
    }

    private static void bytesInTheLastDocument() {
        says("or one of them has more than 2,000 bytes");
        // Belt 0 stays though all documents but the last one could be made.
        for (int turn = 0; turn < 2; turn++) {
            Run x = numbered(40);
            put(x, 0, "{b:" + text(1000) + "}");
            if (turn == 1) {
                stage(x, "{$sort:{b:-1}}");
            }
            refuse(x, 5, "{$project:{b:true, c:" + text(980) + "}}");
            stage(x, "{$limit:1}");
            stage(x, "{$project:{b:1}}");
            due("what is made afterwards", show(x, 0), "{b:1}");
        }
    }

    // ---- 5: more than 16 deep

    private static void depthByGroup() {
        says("or is more than 16 deep");
        for (String work : new String[] {"$push", "$addToSet"}) {
            String plan = "{$group:{by:1, p:{" + work + ":\"$a\"}}}";
            done("{a:" + deep(14) + "}", plan, "{by:1, p:[" + deep(14) + "]}");
            fault(5, "{a:" + deep(15) + "}", plan);
            done("{a:" + deepRow(14) + "}", plan, "{by:1, p:[" + deepRow(14) + "]}");
            fault(5, "{a:" + deepRow(15) + "}", plan);
            // One of them is enough, in whichever group.
            fault(5, "{a:" + deep(14) + "} | {a:" + deep(15) + "} | {a:1}", plan);
            fault(5, "{k:1, a:1} | {k:2, a:" + deep(15) + "}", plan.replace("by:1", "by:\"$k\""));
            fault(5, "{k:2, a:" + deep(15) + "} | {k:1, a:1}", plan.replace("by:1", "by:\"$k\""));
            // Wherever it lies in them.
            for (int count : new int[] {3, 4, 8, 16, 200, 250}) {
                String siblings = elements(count);
                done("{a:{" + siblings + ", z:" + deep(13) + "}}", plan, "{by:1, p:[{" + siblings + ", z:" + deep(13) + "}]}");
                fault(5, "{a:{" + siblings + ", z:" + deep(14) + "}}", plan);
                fault(5, "{a:{z:" + deep(14) + ", " + siblings + "}}", plan);
            }
        }
    }

    private static void depthByLookup() {
        says("or is more than 16 deep");
        String stage = "{$lookup:{here:\"x\", there:\"x\", as:\"o\"}}";
        found("{k:1}", deep(14), stage, "{k:1, o:[" + deep(14) + "]}");
        fault(5, "{k:1}", deep(15), stage);
        fault(5, "{k:1}", deep(16), stage);
        found("{k:1}", "{r:" + deepRow(13) + "}", stage, "{k:1, o:[{r:" + deepRow(13) + "}]}");
        fault(5, "{k:1}", "{r:" + deepRow(14) + "}", stage);
        // One that is not found does not count.
        found("{k:1, x:1}", deep(16) + " | {x:1}", stage, "{k:1, x:1, o:[{x:1}]}");
        fault(5, "{k:1, x:1} | {k:2}", deep(16) + " | {x:1}", stage);
        // One that is 16 deep itself gets an empty row.
        found(deep(16), "", stage, deep(16).replaceFirst("}$", ", o:[]}"));
    }

    private static void depthThatStays() {
        says("or is more than 16 deep");
        done("{a:" + deep(15) + "}", "{$project:{a:true}}", "{a:" + deep(15) + "}");
        done("{a:" + deep(15) + "}", "{$project:{b:\"$a\", c:\"$a.a\"}}", "{b:" + deep(15) + ", c:" + deep(14) + "}");
        for (String work : new String[] {"$min", "$max", "$first", "$last"}) {
            done("{a:" + deep(15) + "}", "{$group:{by:\"$a\", p:{" + work + ":\"$a\"}}}",
                "{by:" + deep(15) + ", p:" + deep(15) + "}");
        }
        done("{a:" + deepRow(15) + "}", "{$unwind:\"$a\"}", "{a:" + deepRow(14) + "}");
        done("{a:" + deep(15) + "}", "{$unwind:\"$a\"}", "{a:" + deep(15) + "}");
        done(deep(16), "{$sort:{a:1}}", deep(16));
        done(deep(16), "{$skip:0}", deep(16));
        done(deep(16), "{$limit:1}", deep(16));
    }

    // ---- 5: all of more than 40,000 bytes

    private static void allBytesByProject() {
        says("or all have more than 40,000 bytes");
        // 100 documents {b:.., t:n characters} of 400 bytes, the first ones with a character more or less.
        Run x = numbered(100);
        refuse(x, 5, "{$project:{b:true, t:" + text(381) + "}}");
        due("40,000 bytes", stage(x, "{$project:{b:true, t:" + text(380) + "}}"), 100);
        due("40,000 bytes", x.many(0, 1), 40000);
        refuse(x, 5, "{$project:{b:true, t:true, u:null}}");
        // One byte more in one document alone, wherever it stands.
        for (int turn = 0; turn < 2; turn++) {
            for (int more = 0; more <= 1; more++) {
                Run y = numbered(99);
                stage(y, "{$project:{t:\"xyz\"}}");
                put(y, 0, "{t:" + text(3 + more) + "}");
                stage(y, "{$sort:{t:" + (turn == 0 ? 1 : -1) + "}}");
                String stage = "{$project:{t:true, u:" + text(376) + "}}";
                if (more == 0) {
                    due("40,000 bytes", stage(y, stage), 100);
                    due("40,000 bytes", y.many(0, 1), 40000);
                } else {
                    refuse(y, 5, stage);
                }
            }
        }
        // With all 200 documents.
        Run z = numbered(200);
        refuse(z, 5, "{$project:{b:true, t:" + text(181) + "}}");
        due("40,000 bytes", stage(z, "{$project:{b:true, t:" + text(180) + "}}"), 200);
        due("40,000 bytes", z.many(0, 1), 40000);
    }

    private static void allBytesByUnwind() {
        says("or all have more than 40,000 bytes");
        // 40 documents {a:number, t:980 characters} of 1,000 bytes each; an empty text is a byte longer than a number.
        String numbers = numbers(40);
        String[] rows = {numbers, numbers.replace("39", "\"\""), numbers.replaceFirst("0", "\"\"")};
        for (String row : rows) {
            Run x = with("{a:" + row + ", t:" + text(980) + "}", "");
            if (row.equals(numbers)) {
                due("40,000 bytes", stage(x, "{$unwind:\"$a\"}"), 40);
                due("40,000 bytes", x.many(0, 1), 40000);
            } else {
                refuse(x, 5, "{$unwind:\"$a\"}");
            }
        }
        // Beside 19 documents of 1,920 bytes that stay: two of 1,760 bytes, or of 1,761.
        for (int more = 0; more <= 1; more++) {
            Run x = numbered(19);
            stage(x, "{$project:{b:true, t:" + text(1900) + "}}");
            put(x, 0, "{b:[1, 2], t:" + text(1740 + more) + "}");
            if (more == 0) {
                due("40,000 bytes", stage(x, "{$unwind:\"$b\"}"), 21);
                due("40,000 bytes", x.many(0, 1), 40000);
            } else {
                refuse(x, 5, "{$unwind:\"$b\"}");
            }
        }
    }

    private static void allBytesByGroup() {
        says("or all have more than 40,000 bytes");
        // A group for each of 200 documents: {by:number, t:n characters} of 21 + n bytes.
        for (int n = 179; n <= 180; n++) {
            Run x = new Run();
            put(x, 0, "{a:" + numbers(200) + "}");
            stage(x, "{$unwind:\"$a\"}");
            String stage = "{$group:{by:\"$a\", t:{$first:" + text(n) + "}}}";
            if (n == 179) {
                due("40,000 bytes", stage(x, stage), 200);
                due("40,000 bytes", x.many(0, 1), 40000);
            } else {
                refuse(x, 5, stage);
            }
        }
        // 25 groups of 1,600 bytes, or one byte more in the last or the first of them alone.
        for (int more = 0; more <= 1; more++) {
            for (int sign = -1; sign <= 1; sign += 2) {
                Run x = with("{a:" + numbers(24) + ", t:\"xyz\"}", "");
                stage(x, "{$unwind:\"$a\"}");
                put(x, 0, "{a:24, t:" + text(3 + more) + "}");
                stage(x, "{$sort:{a:" + sign + "}}");
                String stage = "{$group:{by:\"$a\", t:{$max:\"$t\"}, u:{$first:" + text(1568) + "}}}";
                if (more == 0) {
                    due("40,000 bytes", stage(x, stage), 25);
                    due("40,000 bytes", x.many(0, 1), 40000);
                } else {
                    refuse(x, 5, stage);
                }
            }
        }
    }

    private static void allBytesByLookup() {
        says("or all have more than 40,000 bytes");
        // 100 documents of 392 bytes and 8 for an empty row of a name of one character.
        Run x = numbered(100);
        due("39,200 bytes", stage(x, "{$project:{b:true, t:" + text(372) + "}}"), 100);
        due("39,200 bytes", x.many(0, 1), 39200);
        refuse(x, 5, "{$lookup:{here:\"b\", there:\"b\", as:\"oo\"}}");
        due("40,000 bytes", stage(x, "{$lookup:{here:\"b\", there:\"b\", as:\"o\"}}"), 100);
        due("40,000 bytes", x.many(0, 1), 40000);
        // In place of their own it makes no more of them.
        due("40,000 bytes", stage(x, "{$lookup:{here:\"b\", there:\"b\", as:\"o\"}}"), 100);
        put(x, 1, "{b:19}");
        refuse(x, 5, "{$lookup:{here:\"b\", there:\"b\", as:\"o\"}}");
        // A byte more in the last of them alone.
        for (int more = 0; more <= 1; more++) {
            Run y = numbered(99);
            stage(y, "{$project:{b:true, t:" + text(372) + "}}");
            put(y, 0, "{b:7, t:" + text(372 + more) + "}");
            if (more == 0) {
                due("40,000 bytes", stage(y, "{$lookup:{here:\"b\", there:\"b\", as:\"o\"}}"), 100);
                due("40,000 bytes", y.many(0, 1), 40000);
            } else {
                refuse(y, 5, "{$lookup:{here:\"b\", there:\"b\", as:\"o\"}}");
            }
        }
    }

    private static void fullBeltsStay() {
        says("at most 200, with at most 40,000 bytes in all");
        Run x = numbered(200);
        due("40,000 bytes", stage(x, "{$project:{b:true, t:" + text(180) + "}}"), 200);
        for (String stage : new String[] {"{$skip:0}", "{$limit:200}", "{$sort:{b:-1}}", "{$sort:{b:1}}", "{$unwind:\"$b\"}",
                "{$project:{b:true, t:true}}", "{$project:{t:\"$t\", b:\"$b\"}}"}) {
            due(stage, stage(x, stage), 200);
            due(stage, x.many(0, 1), 40000);
        }
        // Both belts full, each with what it had: a stage on one is nothing to the other.
        Run y = numbered(200);
        stage(y, "{$project:{i:true, b:true, t:" + text(173) + "}}");
        String belt0 = show(y, 0);
        y.swap();
        put(y, 0, "{i:" + numbers(10) + ", b:" + numbers(20) + "}");
        stage(y, "{$unwind:\"$b\"}");
        stage(y, "{$unwind:\"$i\"}");
        stage(y, "{$project:{i:true, b:true, u:" + text(173).replace('x', 'u') + "}}");
        due("40,000 bytes each", y.many(0, 1) + y.many(1, 1), 80000);
        due("belt 1 stays", show(y, 1), belt0);
        for (int i = 0; i < 4; i++) {
            due("sort", stage(y, "{$sort:{i:" + (i % 2 * 2 - 1) + "}}"), 200);
            due("belt 1 stays", show(y, 1), belt0);
            due("40,000 bytes", y.many(0, 1), 40000);
        }
        String other = show(y, 0);
        y.swap();
        due("sort", stage(y, "{$sort:{i:1, b:1}}"), 200);
        due("belt 1 stays", show(y, 1), other);
        due("belt 0", show(y, 0), belt0);
    }

    private static void belt0StaysAfterEach() {
        says("Then belt 0 stays.");
        // One object, a fault of each kind in turn, and stages between them.
        Run x = with("{a:" + MOST + ", t:" + text(700) + "} | {a:1, t:" + text(700) + "} | {a:2, t:" + text(700) + "}", "{z:1}");
        refuse(x, 1, "{$none:1}");
        refuse(x, 2, "{$limit:-1}");
        refuse(x, 3, "{$sort:{\"a.\":1}}");
        refuse(x, 4, "{$group:{by:1, s:{$sum:\"$a\"}}}");
        refuse(x, 5, "{$group:{by:1, p:{$push:\"$t\"}}}");
        due("a stage", stage(x, "{$skip:1}"), 2);
        refuse(x, 5, "{$project:{t:true, u:" + text(1300) + "}}");
        due("a stage", stage(x, "{$project:{a:true}}"), 2);
        due("a stage", show(x, 0), "{a:1} | {a:2}");
        refuse(x, 3, "{$lookup:{here:\"a\", there:\"$\", as:\"o\"}}");
        due("a stage", stage(x, "{$group:{by:1, s:{$sum:\"$a\"}}}"), 1);
        due("a stage", show(x, 0), "{by:1, s:3L}");
    }
}
