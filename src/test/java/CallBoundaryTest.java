/** The promises 1 to 9: each sentence that names a boundary, on both sides of it, and what is to be seen afterwards. */
public final class CallBoundaryTest extends Bench {
    /** Of 20 bytes, as one feed has. */
    private static final String TWENTY = "{a:\"1234567\"}";

    public static void main(String[] args) {
        newObject();
        newObjectsAreApart();
        feedCounts();
        feedOfMoreThanTheTapeTakes();
        feedOfEachByte();
        putBelts();
        putLengths();
        putTakesTheFirstBytes();
        putOfNoDocument();
        putOnTwoHundred();
        putOnFortyThousand();
        putAnswersTheFirst();
        stageLengths();
        stageTakesTheFirstBytes();
        stageOfNoDocument();
        stageAnswers();
        many();
        manyOfFullBelts();
        size();
        sizeOfTheLeastAndTheMost();
        byteAt();
        byteAtOfFullBelts();
        clear();
        clearOfFullBelts();
        swap();
        swapOfFullBelts();
        allCallsOfARun();
        end("each boundary of the promises 1 to 9 holds");
    }

    // ---- Promise 1

    private static void newObject() {
        says("Belts without documents; nothing on the tape.");
        Run x = new Run();
        for (int belt = 0; belt < 2; belt++) {
            due("documents", x.many(belt, 0), 0);
            due("bytes", x.many(belt, 1), 0);
            due("the size of the first", x.size(belt, 0), -1);
            due("the first byte", x.byteAt(belt, 0, 0), -1);
            due("clear", x.clear(belt), 0);
        }
        due("put of one byte", x.put(0, 1), -2);
        due("stage of one byte", x.stage(1), -2);
        due("put of no bytes, which are there", x.put(0, 0), -1);
        due("stage of no bytes, which are there", x.stage(0), -1);
        x.swap();
        due("swap of two empty belts", x.many(0, 0) + x.many(1, 0), 0);
        due("the first feed", x.feed(0, 0, 0, 0, 0), 20);
        for (String s : new String[] {"{$project:{a:1}}", "{$unwind:\"$a\"}", "{$group:{by:1}}", "{$sort:{a:1}}", "{$skip:0}",
                "{$limit:1}", "{$lookup:{here:\"a\", there:\"a\", as:\"a\"}}"}) {
            done("", s, "");
        }
    }

    private static void newObjectsAreApart() {
        says("Belts without documents; nothing on the tape.");
        Run x = with("{a:1}", "{b:2}");
        x.feed(1, 2, 3, 4, 5);
        Run y = new Run();
        due("documents of another object", y.many(0, 0) + y.many(1, 0), 0);
        due("the tape of another object", y.put(0, 1), -2);
        due("clear of another object", y.clear(0), 0);
        due("this one stays", show(x, 0), "{a:1}");
        due("its tape stays", x.feed(1, 2, 3, 4, 5), 40);
    }

    // ---- Promise 2

    private static void feedCounts() {
        says("Twenty bytes come behind those on the tape: how many there are.");
        Run x = new Run();
        for (int n = 20; n <= 2000; n += 20) {
            due("feed", x.feed(n, n, n, n, n), n);
        }
        due("they are on the tape alone", x.many(0, 1) + x.many(1, 1), 0);
    }

    private static void feedOfMoreThanTheTapeTakes() {
        says("-1, doing nothing, when there would be more than 2,000.");
        byte[] most = Tree.encode(Tree.doc(sized(2000)));
        Run x = with("{k:1}", "{l:2}");
        for (int i = 0; i < 1980; i += 20) {
            feedFrom(x, most, i);
        }
        due("the last 20 bytes", feedFrom(x, most, 1980), 2000);
        due("20 more", x.feed(-1, -1, -1, -1, -1), -1);
        due("20 more, again", x.feed(0, 0, 0, 0, 0), -1);
        due("there are 2,000 as before", x.put(0, 2001), -2);
        due("there are 2,000 as before", x.stage(2001), -2);
        due("the belts stay", show(x, 0) + show(x, 1), "{k:1}{l:2}");
        due("the 2,000 are a document", x.put(1, 2000), 2);
        dueBytes("with the bytes that were fed", bytes(x, 1, 1), most);
        due("then there is room", x.feed(0, 0, 0, 0, 0), 20);

        String[] calls = {"put", "put of no document", "stage of no document", "stage with a fault", "stage"};
        for (int i = 0; i < calls.length; i++) {
            Run y = new Run();
            String name = i == 3 ? "$" : "a";
            send(y, i == 0 ? most : Tree.encode(Tree.doc("{$project:{" + name + ":" + text(1972) + "}}")));
            due("a full tape", y.feed(0, 0, 0, 0, 0), -1);
            int answer = i == 0 ? y.put(0, 2000) : i == 1 ? y.put(1, 1999) : i == 2 ? y.stage(1999) : y.stage(2000);
            due(calls[i], answer, new int[] {1, -1, -1, -8, 0}[i]);
            due("the tape is empty after " + calls[i], y.feed(0, 0, 0, 0, 0), 20);
        }
    }

    private static void feedOfEachByte() {
        says("four of each number, the highest first");
        Run x = new Run();
        x.feed(0x3C000000, 0x02610030, 0x00000030, 0x31323334, 0x35363738);
        x.feed(0x41424344, 0x45464748, 0x494A4B4C, 0x4D4E4F50, 0x51525354);
        x.feed(0x61626364, 0x65666768, 0x696A6B6C, 0x6D6E6F70, 0x71720000);
        due("put", x.put(0, 60), 1);
        due("each byte where it was", show(x, 0), "{a:\"012345678ABCDEFGHIJKLMNOPQRSTabcdefghijklmnopqr\"}");
        // A number's sign is a bit as others are.
        x.feed(0x14000000, 0x12610080, 0xFF7F0180, 0xFEFDFC0A, 0x62000000);
        due("no document with a byte too much", x.put(0, 20), -1);
        x.feed(0x13000000, 0x12610080, 0xFF7F0180, 0xFEFDFC0A, 0x62000000);
        due("put", x.put(0, 19), 2);
        int[] want = {0x13, 0, 0, 0, 0x12, 0x61, 0, 0x80, 0xFF, 0x7F, 0x01, 0x80, 0xFE, 0xFD, 0xFC, 0x0A, 0x62, 0, 0};
        for (int i = 0; i < want.length; i++) {
            due("byte " + i, x.byteAt(0, 1, i), want[i]);
        }
    }

    // ---- Promise 3

    private static void putBelts() {
        says("-2, doing nothing, when there is no such belt");
        for (int no : NO_NUMBERS) {
            Run x = with("{k:1}", "{l:2}");
            send(x, Tree.encode(Tree.doc(TWENTY)));
            due("put on belt " + no, x.put(no, 20), -2);
            due("the belts stay", show(x, 0) + show(x, 1), "{k:1}{l:2}");
            due("the tape stays", x.put(1, 20), 2);
            due("the tape stays", show(x, 1), "{l:2} | " + TWENTY);
        }
        for (int belt = 0; belt < 2; belt++) {
            Run x = new Run();
            due("put on belt " + belt, put(x, belt, TWENTY), 1);
            due("put on belt " + belt, show(x, belt), TWENTY);
            due("the other has none", x.many(1 - belt, 0), 0);
        }
    }

    private static void putLengths() {
        says("-2, doing nothing, when .. n is below 0 or more than there are.");
        for (int no : new int[] {-1, 21, 22, 40, 2000, 2001, Integer.MIN_VALUE, Integer.MAX_VALUE}) {
            Run x = with("{k:1}", "{l:2}");
            send(x, Tree.encode(Tree.doc(TWENTY)));
            due("put of " + no + " of 20 bytes", x.put(0, no), -2);
            due("the belts stay", show(x, 0) + show(x, 1), "{k:1}{l:2}");
            due("the tape stays", x.put(0, 20), 2);
            due("the tape stays", show(x, 0), "{k:1} | " + TWENTY);
        }
        Run x = with("{k:1}", "");
        send(x, Tree.encode(Tree.doc(TWENTY)));
        due("put of 0 of 20 bytes", x.put(0, 0), -1);
        due("that takes them off the tape", x.put(0, 1), -2);
        due("the belt stays", show(x, 0), "{k:1}");
        due("put of 1 of no bytes", x.put(0, 1), -2);
        due("put of 0 of no bytes", x.put(0, 0), -1);
        due("put of -1 of no bytes", x.put(0, -1), -2);
    }

    private static void putTakesTheFirstBytes() {
        says("The first n bytes of the tape (which is empty then)");
        Run x = new Run();
        send(x, Tree.encode(Tree.doc(TWENTY)));
        send(x, Tree.encode(Tree.doc("{b:\"7654321\"}")));
        due("the first 20 of 40", x.put(0, 20), 1);
        due("the first 20 of 40", show(x, 0), TWENTY);
        due("the others are gone", x.put(0, 20), -2);
        due("the others are gone", x.feed(0, 0, 0, 0, 0), 20);
        due("0s that were fed are no document", x.put(0, 5), -1);
        send(x, Tree.encode(Tree.doc("{}")));
        due("the first 5 of 20", x.put(0, 5), 2);
        due("the first 5 of 20", show(x, 0), TWENTY + " | {}");
    }

    private static void putOfNoDocument() {
        says("-1 when they are no document");
        for (int n : new int[] {0, 1, 4, 5, 19}) {
            Run x = with("{k:1}", "{l:2}");
            send(x, Tree.encode(Tree.doc(TWENTY)));
            due("the first " + n + " bytes", x.put(1, n), -1);
            due("the belts stay", show(x, 0) + show(x, 1), "{k:1}{l:2}");
            due("the tape is empty then", x.put(1, 1), -2);
            due("the belt has room as before", put(x, 1, TWENTY), 2);
        }
        Run x = new Run();
        send(x, Tree.encode(Tree.doc(TWENTY)));
        x.feed(0, 0, 0, 0, 0);
        due("a byte more than the document has", x.put(0, 21), -1);
    }

    private static void putOnTwoHundred() {
        says("at most 200");
        for (int belt = 0; belt < 2; belt++) {
            Run x = new Run();
            for (int i = 1; i <= 200; i++) {
                due("document " + i, put(x, belt, "{a:" + i + "}"), i);
            }
            due("document 201", put(x, belt, "{}"), -3);
            due("the tape is empty then", x.put(belt, 1), -2);
            due("there are 200", x.many(belt, 0), 200);
            due("their bytes", x.many(belt, 1), 2400);
            due("the last one stays", x.byteAt(belt, 199, 7), 200);
            due("none behind it", x.size(belt, 200), -1);
            due("the other belt has room", put(x, 1 - belt, "{}"), 1);
            due("document 201 again", put(x, belt, "{}"), -3);
        }
        Run y = numbered(199);
        due("199 by stages and one", put(y, 0, "{}"), 200);
        due("one more", put(y, 0, "{}"), -3);
        due("a stage makes room", stage(y, "{$skip:1}"), 199);
        due("for one", put(y, 0, "{z:1}"), 200);
        due("for no more", put(y, 0, "{z:1}"), -3);
    }

    private static void putOnFortyThousand() {
        says("with at most 40,000 bytes in all");
        for (int belt = 0; belt < 2; belt++) {
            Run x = bytesOnBelt(belt, 39600);
            due("40,001 bytes", put(x, belt, sized(401)), -3);
            due("the tape is empty then", x.put(belt, 1), -2);
            due("there are 99", x.many(belt, 0), 99);
            due("of 39,600 bytes", x.many(belt, 1), 39600);
            due("none behind them", x.size(belt, 99), -1);
            due("the other belt has room", put(x, 1 - belt, sized(401)), 1);
            due("40,000 bytes", put(x, belt, sized(400)), 100);
            due("40,000 bytes", x.many(belt, 1), 40000);
            due("the last byte", x.byteAt(belt, 99, 397), (int) 'x');
            due("40,005 bytes", put(x, belt, "{}"), -3);
            due("40,000 bytes", x.many(belt, 1), 40000);
            due("clear makes room", x.clear(belt), 100);
            due("for all that went before", put(x, belt, sized(401)), 1);
        }
        Run y = bytesOnBelt(0, 39600);
        due("39,994 bytes", put(y, 0, sized(394)), 100);
        due("40,001 bytes by a short one", put(y, 0, "{\"\":null}"), -3);
        due("39,999 bytes by one that is shorter", put(y, 0, "{}"), 101);
        due("39,999 bytes", y.many(0, 1), 39999);
    }

    /** Documents of 400 bytes. */
    private static Run bytesOnBelt(int belt, int bytes) {
        Run x = numbered(bytes / 400);
        stage(x, "{$project:{b:true, t:" + text(380) + "}}");
        due("bytes by stages", x.many(0, 1), bytes);
        if (belt == 1) {
            x.swap();
        }
        return x;
    }

    private static void putAnswersTheFirst() {
        says("-1 when they are no document, -3 when there is no room; -2 ..");
        Run x = numbered(200);
        send(x, Tree.encode(Tree.doc("{}")));
        due("no such belt and no room", x.put(2, 5), -2);
        due("no such length and no room", x.put(0, 21), -2);
        due("no document and no room", x.put(0, 6), -1);
        due("no room", put(x, 0, "{}"), -3);
        due("no document and no such belt", x.put(2, 0), -2);
    }

    // ---- Promise 4

    private static void stageLengths() {
        says("-2, doing nothing, when n is below 0 or more than there are.");
        byte[] skip = Tree.encode(Tree.doc("{$skip:1L}"));
        due("it has 20 bytes", skip.length, 20);
        for (int no : new int[] {-1, 21, 22, 40, 2000, 2001, Integer.MIN_VALUE, Integer.MAX_VALUE}) {
            Run x = with("{k:1} | {k:2}", "{l:2}");
            send(x, skip);
            due("stage of " + no + " of 20 bytes", x.stage(no), -2);
            due("the belts stay", show(x, 0) + " / " + show(x, 1), "{k:1} | {k:2} / {l:2}");
            due("the tape stays", x.stage(20), 1);
            due("and was the stage", show(x, 0), "{k:2}");
        }
        Run x = with("{k:1} | {k:2}", "");
        send(x, skip);
        due("stage of 0 of 20 bytes", x.stage(0), -1);
        due("that takes them off the tape", x.stage(1), -2);
        due("belt 0 stays", show(x, 0), "{k:1} | {k:2}");
        due("stage of 1 of no bytes", x.stage(1), -2);
        due("stage of 0 of no bytes", x.stage(0), -1);
        due("stage of -1 of no bytes", x.stage(-1), -2);
    }

    private static void stageTakesTheFirstBytes() {
        says("The first n bytes of the tape (which is empty then) are a stage");
        Run x = with("{k:1} | {k:2} | {k:3}", "");
        send(x, Tree.encode(Tree.doc("{$skip:1L}")));
        send(x, Tree.encode(Tree.doc("{$skip:2L}")));
        due("the first 20 of 40", x.stage(20), 2);
        due("the first 20 of 40", show(x, 0), "{k:2} | {k:3}");
        due("the others are gone", x.stage(20), -2);
        due("the others are gone", x.feed(0, 0, 0, 0, 0), 20);
    }

    private static void stageOfNoDocument() {
        says("-1 when they are no document");
        for (int n : new int[] {0, 1, 4, 5, 19, 21}) {
            Run x = with("{k:1} | {k:2}", "{l:2}");
            send(x, Tree.encode(Tree.doc("{$skip:1L}")));
            x.feed(0, 0, 0, 0, 0);
            due("the first " + n + " bytes", x.stage(n), -1);
            due("the belts stay", show(x, 0) + " / " + show(x, 1), "{k:1} | {k:2} / {l:2}");
            due("the tape is empty then", x.stage(1), -2);
        }
    }

    private static void stageAnswers() {
        says("how many documents belt 0 has .. the fault, less 10 (-9 to -5)");
        done("{a:1}", "{$skip:1}", "");
        Run x = numbered(200);
        due("200 documents", stage(x, "{$skip:0}"), 200);
        due("none", stage(x, "{$limit:0}"), 0);
        String great = "{v:9223372036854775807L} | {v:1}";
        String[] faults = {"{}", "{$skip:-1}", "{$unwind:\"$\"}", "{$group:{by:1, s:{$sum:\"$v\"}}}",
            "{$group:{by:1, s:{$push:" + text(1000) + "}}}"};
        for (int i = 0; i < faults.length; i++) {
            due("fault " + (i + 1), stage(with(great, ""), faults[i]), i - 9);
            fault(i + 1, great, faults[i]);
        }
    }

    // ---- Promise 5

    private static void many() {
        says("-1 when there is no such belt or what.");
        Run x = with("{a:1} | {b:-2}", "{c:3L}");
        due("documents of 0", x.many(0, 0), 2);
        due("bytes of 0", x.many(0, 1), 24);
        due("documents of 1", x.many(1, 0), 1);
        due("bytes of 1", x.many(1, 1), 16);
        for (int no : NO_NUMBERS) {
            for (int right = 0; right < 2; right++) {
                due("belt " + no, x.many(no, right), -1);
                due("what " + no, x.many(right, no), -1);
            }
            due("both " + no, x.many(no, no), -1);
        }
        x.clear(0);
        due("documents of none", x.many(0, 0), 0);
        due("bytes of none", x.many(0, 1), 0);
    }

    private static void manyOfFullBelts() {
        says("0 how many documents, 1 how many bytes they have in all");
        Run x = fullBelts();
        for (int belt = 0; belt < 2; belt++) {
            due("documents", x.many(belt, 0), 200);
            due("bytes", x.many(belt, 1), 40000);
        }
    }

    /** Both with 200 documents of 200 bytes. */
    private static Run fullBelts() {
        Run x = numbered(200);
        for (int belt = 0; belt < 2; belt++) {
            due("full", stage(x, "{$project:{i:true, b:true, t:" + text(173) + "}}"), 200);
            x.swap();
            if (belt == 0) {
                put(x, 0, "{i:" + numbers(10) + ", b:" + numbers(20) + "}");
                stage(x, "{$unwind:\"$i\"}");
                stage(x, "{$unwind:\"$b\"}");
            }
        }
        return x;
    }

    // ---- Promise 6

    private static void size() {
        says("How many bytes document k of a belt has; -1 when there is none.");
        Run x = with("{a:1} | {b:\"\"}", "{c:3L}");
        due("the first", x.size(0, 0), 12);
        due("the last", x.size(0, 1), 13);
        due("behind the last", x.size(0, 2), -1);
        due("ahead of the first", x.size(0, -1), -1);
        due("the first and last of belt 1", x.size(1, 0), 16);
        due("behind it", x.size(1, 1), -1);
        for (int no : NO_NUMBERS) {
            due("document " + no, x.size(0, no), -1);
            due("document " + no + " of belt 1", x.size(1, no), -1);
            due("belt " + no, x.size(no, 0), -1);
        }
        x.clear(0);
        due("the first when there is none any more", x.size(0, 0), -1);
        due("the other belt's", x.size(1, 0), 16);
    }

    private static void sizeOfTheLeastAndTheMost() {
        says("How many bytes document k of a belt has; -1 when there is none.");
        Run x = with("{}", "");
        put(x, 0, sized(2000));
        due("5 bytes", x.size(0, 0), 5);
        due("2,000 bytes", x.size(0, 1), 2000);
        Run y = fullBelts();
        for (int belt = 0; belt < 2; belt++) {
            due("document 199", y.size(belt, 199), 200);
            due("document 200", y.size(belt, 200), -1);
            due("document 201", y.size(belt, 201), -1);
            due("document -1", y.size(belt, -1), -1);
        }
    }

    // ---- Promise 7

    private static void byteAt() {
        says("Byte i of it, 0 to 255; -1 when there is none.");
        Run x = with("{a:1} | {b:-2}", "{c:3L}");
        due("the first", x.byteAt(0, 1, 0), 12);
        due("the last", x.byteAt(0, 1, 11), 0);
        due("behind the last", x.byteAt(0, 1, 12), -1);
        due("ahead of the first", x.byteAt(0, 1, -1), -1);
        due("behind the last, where another document begins", x.byteAt(0, 0, 12), -1);
        due("254", x.byteAt(0, 1, 7), 254);
        due("255", x.byteAt(0, 1, 8), 255);
        due("of the last document", x.byteAt(1, 0, 7), 3);
        for (int no : NO_NUMBERS) {
            due("belt " + no, x.byteAt(no, 0, 0), -1);
            due("document " + no, x.byteAt(0, no, 0), -1);
            due("document " + no + " of belt 1", x.byteAt(1, no, 0), -1);
        }
        for (int no : new int[] {-1, 12, 13, 24, 2000, 40000, Integer.MIN_VALUE, Integer.MAX_VALUE}) {
            due("byte " + no, x.byteAt(0, 0, no), -1);
        }
        stage(x, "{$limit:1}");
        due("of a document that is gone", x.byteAt(0, 1, 0), -1);
        x.clear(1);
        due("of a belt that is cleared", x.byteAt(1, 0, 0), -1);
        // Each value that a byte can have: in a number it may be any.
        Run y = new Run();
        for (int b = 0; b < 256; b++) {
            put(y, 0, new byte[] {12, 0, 0, 0, 16, 'a', 0, (byte) b, 0, 0, (byte) (255 - b), 0});
            due("byte of value " + b, y.byteAt(0, b % 128, 7), b);
            due("byte of value " + (255 - b), y.byteAt(0, b % 128, 10), 255 - b);
            if (b == 127) {
                y = new Run();
            }
        }
    }

    private static void byteAtOfFullBelts() {
        says("Byte i of it, 0 to 255; -1 when there is none.");
        Run x = fullBelts();
        for (int belt = 0; belt < 2; belt++) {
            due("the first byte of all", x.byteAt(belt, 0, 0), 200);
            due("the first of the last document", x.byteAt(belt, 199, 0), 200);
            due("its number", x.byteAt(belt, 199, 7), 9);
            due("its other number", x.byteAt(belt, 199, 14), 19);
            due("the last of its text", x.byteAt(belt, 199, 197), (int) 'x');
            due("the last byte of all", x.byteAt(belt, 199, 199), 0);
            due("behind it", x.byteAt(belt, 199, 200), -1);
            due("of document 200", x.byteAt(belt, 200, 0), -1);
        }
        Run y = new Run();
        put(y, 1, sized(2000));
        due("byte 1,997 of 2,000", y.byteAt(1, 0, 1997), (int) 'x');
        due("byte 1,999 of 2,000", y.byteAt(1, 0, 1999), 0);
        due("byte 2,000 of 2,000", y.byteAt(1, 0, 2000), -1);
    }

    // ---- Promise 8

    private static void clear() {
        says("A belt has no documents any more: how many it had. -1 when there is no such belt.");
        for (int no : NO_NUMBERS) {
            Run x = with("{a:1} | {b:2}", "{c:3}");
            due("clear of belt " + no, x.clear(no), -1);
            due("the belts stay", show(x, 0) + " / " + show(x, 1), "{a:1} | {b:2} / {c:3}");
        }
        for (int belt = 0; belt < 2; belt++) {
            Run x = with("{a:1} | {b:2}", "{c:3}");
            send(x, Tree.encode(Tree.doc("{}")));
            due("clear", x.clear(belt), belt == 0 ? 2 : 1);
            due("no documents", x.many(belt, 0), 0);
            due("no bytes", x.many(belt, 1), 0);
            due("not the first", x.size(belt, 0), -1);
            due("the other stays", show(x, 1 - belt), belt == 0 ? "{c:3}" : "{a:1} | {b:2}");
            due("clear again", x.clear(belt), 0);
            due("the tape stays", x.put(belt, 5), 1);
            due("the first is new", show(x, belt), "{}");
        }
    }

    private static void clearOfFullBelts() {
        says("A belt has no documents any more: how many it had.");
        for (int belt = 0; belt < 2; belt++) {
            Run x = fullBelts();
            due("no room", put(x, belt, "{}"), -3);
            due("clear", x.clear(belt), 200);
            due("no documents", x.many(belt, 0), 0);
            due("no bytes", x.many(belt, 1), 0);
            due("room", put(x, belt, sized(2000)), 1);
            due("the other stays", x.many(1 - belt, 1), 40000);
            due("the other has no room", put(x, 1 - belt, "{}"), -3);
        }
    }

    // ---- Promise 9

    private static void swap() {
        says("The belts change their documents.");
        Run x = with("{a:1} | {b:2}", "");
        send(x, Tree.encode(Tree.doc("{}")));
        x.swap();
        due("with a belt that has none", show(x, 0), "");
        due("with a belt that has none", show(x, 1), "{a:1} | {b:2}");
        due("the tape stays", x.put(0, 5), 1);
        x.swap();
        due("and again", show(x, 0) + " / " + show(x, 1), "{a:1} | {b:2} / {}");
        x.swap();
        x.swap();
        due("twice is as it was", show(x, 0) + " / " + show(x, 1), "{a:1} | {b:2} / {}");
        x.swap();
        due("a stage is done on belt 0", stage(x, "{$lookup:{here:\"k\", there:\"a\", as:\"o\"}}"), 1);
        due("and looks at belt 1", show(x, 0) + " / " + show(x, 1), "{o:[{b:2}]} / {a:1} | {b:2}");
        due("put behind what was swapped", put(x, 1, "{c:3}"), 3);
        due("clear of what was swapped", x.clear(0), 1);
        x.swap();
        due("all of it is swapped", show(x, 0) + " / " + show(x, 1), "{a:1} | {b:2} | {c:3} / ");
    }

    private static void swapOfFullBelts() {
        says("The belts change their documents.");
        Run x = numbered(200);
        stage(x, "{$project:{t:" + text(187) + "}}");
        put(x, 1, "{k:1}");
        due("a full belt", x.many(0, 1), 40000);
        x.swap();
        due("it is belt 1", x.many(1, 0) + x.many(1, 1), 40200);
        due("no room there", put(x, 1, "{}"), -3);
        due("the other is belt 0", show(x, 0), "{k:1}");
        due("room there", put(x, 0, "{}"), 2);
        x.swap();
        due("no room on belt 0", put(x, 0, "{}"), -3);
        due("room on belt 1", put(x, 1, "{}"), 3);
    }

    // ---- What it is

    private static void allCallsOfARun() {
        says("An object is used for at most 512 calls after it has been made");
        PipelineBelt x = new PipelineBelt();
        int calls = 0;
        for (int i = 1; i <= 200; i++) {
            x.feed(0x0C000000, 0x10610000 | i, 0, 0, 0);
            due("put " + i, x.put(i % 2, 12), (i + 1) / 2);
            calls += 2;
        }
        for (int i = 0; i < 35; i++) {
            due("feed", x.feed(0x10000000, 0x1024736B, 0x69700001, 0, 0), 20);
            due("stage", x.stage(16), 99 - i / 2);
            x.swap();
            calls += 3;
        }
        for (; calls < Run.CALLS_MOST - 1; calls++) {
            due("many", x.many(0, 0), 100 - 17);
        }
        due("the last call", x.many(1, 0), 100 - 18);
    }
}
